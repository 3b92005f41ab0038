import java.lang.reflect.InvocationTargetException;
import java.lang.reflect.Method;
import java.util.ArrayList;
import java.util.Arrays;
import java.util.Comparator;
import java.util.List;
import java.util.Map;
import java.util.Random;

/** Random runs of calls: CamelParts answers as PlainCamels does, and throws nothing. */
public final class PlainTest {
    private static final int RUNS = 1500;
    private static final int CALLS = 60;
    private static final String[] WORDS = {"heir ", "herd ", "told", "rests", "row", "odd", ";", " ", "1", "0", "9 ", "99", "1000", "x", "$"};

    private static final int[] EDGES = {Integer.MIN_VALUE, Integer.MAX_VALUE, -1, 1000, 201, 100, 41, 61, 21, 999, 200};
    private static final int ANY = Integer.MAX_VALUE - 1;
    // What each argument may be at most; an heir's place is one of five, there or not.
    private static final Map<String, int[]> MOST = Map.ofEntries(
            Map.entry("feed", new int[] {127}), Map.entry("end", new int[] {10}), Map.entry("rule", new int[] {4}),
            Map.entry("heir", new int[] {4, 3}), Map.entry("told", new int[] {4, 1}), Map.entry("sum", new int[] {1}),
            Map.entry("over", new int[] {4, 1}), Map.entry("alter", new int[] {4, 1, 12}), Map.entry("herd", new int[] {999}),
            Map.entry("judge", new int[] {3}), Map.entry("bear", new int[] {9, 99}), Map.entry("dies", new int[] {4}),
            Map.entry("lend", new int[] {1}), Map.entry("share", new int[] {4, 999}), Map.entry("wills", new int[] {4, 9}),
            Map.entry("will", new int[] {4, 9, 3, 3}), Map.entry("by", new int[] {3, 4}), Map.entry("of", new int[] {999, 4}),
            Map.entry("loses", new int[] {200, 1}), Map.entry("keeps", new int[] {200, 1}), Map.entry("unlike", new int[] {3, 3}),
            Map.entry("best", new int[] {4}), Map.entry("gains", new int[] {4, 1}), Map.entry("wants", new int[] {4, 999}),
            Map.entry("mean", new int[] {10, 4, 1}), Map.entry("luck", new int[] {10, 4, 12, 1}), Map.entry("see", new int[] {4, 30}),
            Map.entry("forget", new int[] {3}), Map.entry("herds", new int[] {2}), Map.entry("downs", new int[] {4, 2}),
            Map.entry("ask", new int[] {1}), Map.entry("drift", new int[] {ANY, 60, 1}), Map.entry("keep", new int[] {1}),
            Map.entry("back", new int[] {1}), Map.entry("sheet", new int[] {3, 2, 40}), Map.entry("lay", new int[] {3, 12, ANY}),
            Map.entry("read", new int[] {3, 2, 10, 6}), Map.entry("count", new int[] {4}));

    private final Random random = new Random(20261117);
    private final List<Method> calls = new ArrayList<>();
    private final List<Method> plain = new ArrayList<>();

    public static void main(String[] args) throws Exception {
        PlainTest test = new PlainTest();
        test.runAll();
        test.partMany();
        partExtremes();
        Due.finish();
    }

    private PlainTest() throws NoSuchMethodException {
        for (Method m : CamelParts.class.getDeclaredMethods()) {
            if (java.lang.reflect.Modifier.isPublic(m.getModifiers())) {
                calls.add(m);
            }
        }
        calls.sort(Comparator.comparing(Method::getName));
        for (Method m : calls) {
            plain.add(PlainCamels.class.getDeclaredMethod(m.getName(), m.getParameterTypes()));
        }
        Due.due("calls of the face", calls.size(), 42);
    }

    private void runAll() throws Exception {
        for (int run = 0; run < RUNS; run++) {
            CamelParts x = new CamelParts();
            PlainCamels y = new PlainCamels();
            List<String> told = new ArrayList<>();
            for (int t = 0; t < CALLS; t++) {
                if (random.nextInt(12) == 0) {
                    feedSome(x, y, told);
                }
                if (random.nextInt(6) == 0) {
                    set(x, y, told);
                }
                int c = random.nextInt(calls.size());
                if (isDestroyer(calls.get(c).getName()) && random.nextInt(4) != 0) {
                    continue;
                }
                Object[] args = arguments(calls.get(c).getName(), calls.get(c).getParameterCount());
                call(x, y, c, args, told);
            }
        }
    }

    private void partMany() {
        for (int t = 0; t < 4000; t++) {
            List<PlainCamels.Part> parts = new ArrayList<>();
            int mostUp = 1 + random.nextInt(9);
            int mostDown = 1 + random.nextInt(99);
            for (int n = random.nextInt(6); n > 0; n--) {
                parts.add(new PlainCamels.Part(1 + random.nextInt(mostUp), 1 + random.nextInt(mostDown)));
            }
            partsAlike(parts, random.nextInt(random.nextBoolean() ? 1000 : 40));
        }
    }

    // One has nearly all, or all have nearly the same: where rows are farthest from the quota.
    private static void partExtremes() {
        int[][] downs = {{1, 99, 99, 99, 99}, {99, 99, 99, 99, 1}, {99, 98, 97, 96, 95}, {2, 2, 99, 99, 99}, {1, 5, 5, 5, 5}};
        for (int[] row : downs) {
            for (int up = 1; up <= 9; up += 4) {
                List<PlainCamels.Part> parts = new ArrayList<>();
                for (int down : row) {
                    parts.add(new PlainCamels.Part(down == 1 ? up : 1, down));
                }
                for (int herd = 0; herd <= 999; herd += herd < 100 ? 1 : 7) {
                    partsAlike(parts, herd);
                }
            }
        }
    }

    private static void partsAlike(List<PlainCamels.Part> parts, int herd) {
        CamelParts x = new CamelParts();
        for (PlainCamels.Part p : parts) {
            x.bear(p.up(), p.down());
        }
        x.herd(herd);
        for (int kind = 0; kind < 4; kind++) {
            int[] gets = PlainCamels.gets(parts, herd, kind);
            for (int i = 0; i < gets.length; i++) {
                Due.due(parts + " of " + herd + ": by(" + kind + ", " + i + ")", x.by(kind, i), gets[i]);
            }
        }
    }

    // These would leave most runs without heirs.
    private static boolean isDestroyer(String name) {
        return name.equals("text") || name.equals("dies") || name.equals("back");
    }

    private void call(CamelParts x, PlainCamels y, int c, Object[] args, List<String> told) throws Exception {
        String name = calls.get(c).getName() + Arrays.toString(args);
        told.add(name);
        long got;
        try {
            got = ((Number) calls.get(c).invoke(x, args)).longValue();
        } catch (InvocationTargetException e) {
            Due.due(told + " threw " + e.getCause(), 1, 0);
            return;
        }
        long want = ((Number) plain.get(c).invoke(y, args)).longValue();
        Due.due(got == want ? name : told.toString(), got, want);
    }

    private void feedSome(CamelParts x, PlainCamels y, List<String> told) {
        StringBuilder text = new StringBuilder();
        if (random.nextBoolean()) {
            int heirs = random.nextInt(6);
            for (int i = 0; i < heirs; i++) {
                text.append("heir ").append(1 + random.nextInt(9)).append(' ').append(1 + random.nextInt(99)).append(';');
            }
            text.append(random.nextBoolean() ? "herd " + random.nextInt(1000) + ";" : "").append(WORDS[2 + random.nextInt(4)]).append(';');
        }
        for (int w = random.nextInt(3) * random.nextInt(12); w > 0; w--) {
            text.append(WORDS[random.nextInt(WORDS.length)]);
        }
        told.add("feed " + text);
        for (char c : text.toString().toCharArray()) {
            Due.due("feed", x.feed(c), y.feed(c));
        }
        Due.due(told + " text()", x.text(), y.text());
        Due.due(told + " fault()", x.fault(), y.fault());
    }

    // States that random arguments alone would seldom come to.
    private void set(CamelParts x, PlainCamels y, List<String> told) {
        int up = 1 + random.nextInt(9);
        int down = 1 + random.nextInt(random.nextBoolean() ? 12 : 99);
        int herd = random.nextInt(random.nextBoolean() ? 14 : 250);
        int kind = random.nextInt(4);
        told.add("bear " + up + " " + down + ", herd " + herd + ", judge " + kind);
        Due.due("bear", x.bear(up, down), y.bear(up, down));
        Due.due("herd", x.herd(herd), y.herd(herd));
        Due.due("judge", x.judge(kind), y.judge(kind));
        if (random.nextInt(4) == 0) {
            fillSheet(x, y, told);
        }
        if (random.nextInt(3) == 0) {
            int i = random.nextInt(5);
            int got = y.heir(i, 2);
            told.add("see " + i + " " + got);
            Due.due("forget", x.forget(0), y.forget(0));
            Due.due("see", x.see(i, got), y.see(i, got));
        }
    }

    private void fillSheet(CamelParts x, PlainCamels y, List<String> told) {
        int k = random.nextInt(4);
        int lane = random.nextInt(3);
        int n = random.nextInt(12);
        told.add("sheet " + k + " " + lane + " " + n);
        Due.due("sheet", x.sheet(k, lane, n), y.sheet(k, lane, n));
        for (int i = 0; i < n; i++) {
            int v = 1 + random.nextInt(9) + (random.nextInt(8) == 0 ? random.nextInt() << 8 : 0);
            told.add("lay " + k + " " + i + " " + v);
            Due.due("lay", x.lay(k, i, v), y.lay(k, i, v));
        }
    }

    private Object[] arguments(String name, int number) {
        int[] most = MOST.get(name);
        Object[] args = new Object[number];
        for (int a = 0; a < number; a++) {
            args[a] = argument(most[a]);
        }
        return args;
    }

    // Mostly within its bounds, now and then just outside or far off.
    private int argument(int most) {
        int sort = random.nextInt(60);
        if (sort == 0) {
            return EDGES[random.nextInt(EDGES.length)];
        }
        if (sort == 1) {
            return most + 1;
        }
        if (sort == 2) {
            return -1;
        }
        if (most == ANY) {
            return sort < 6 ? random.nextInt() : random.nextInt(100);
        }
        return sort == 3 ? most : random.nextInt((sort < 30 ? Math.min(most, 20) : most) + 1);
    }
}

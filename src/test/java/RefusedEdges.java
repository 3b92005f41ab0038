import java.lang.reflect.Method;
import java.util.ArrayList;
import java.util.Arrays;
import java.util.LinkedHashMap;
import java.util.List;
import java.util.Map;
import java.util.function.Supplier;
import java.util.function.ToLongFunction;

/**
 * What is refused changes nothing: each call with each argument just inside and just outside its
 * bounds, on an object that is then asked for all that can be asked, against its twin.
 */
final class RefusedEdges {
    private static final int BAD = CamelParts.BAD, STATE = CamelParts.STATE, FULL = CamelParts.FULL, NONE = CamelParts.NONE;
    private static final int LEAST = Integer.MIN_VALUE, MOST = Integer.MAX_VALUE;
    private static final String WORDS = "what is refused changes nothing (but THE TAPE, as told).";
    private static final List<String> CHANGERS = List.of("feed", "end", "text", "alter", "herd", "judge", "bear", "dies", "see", "forget",
            "keep", "back", "sheet", "lay", "read");

    private final Supplier<CamelParts> state;
    private final List<Long> due;
    private final Map<String, int[]> bounds = new LinkedHashMap<>();

    private RefusedEdges(Supplier<CamelParts> state) {
        this.state = state;
        CamelParts x = state.get();
        setBounds(x.rule(0) - 1, x.count(0), x.count(2));
        this.due = probe(x);
    }

    static void all() throws Exception {
        Edge.of(Edge.TERMS, WORDS);
        RefusedEdges ordinary = new RefusedEdges(RefusedEdges::ordinary);
        ordinary.callAll();
        ordinary.refusedOrdinary();
        RefusedEdges full = new RefusedEdges(RefusedEdges::full);
        full.callAll();
        full.refusedFull();
        RefusedEdges empty = new RefusedEdges(CamelParts::new);
        empty.callAll();
        empty.refusedEmpty();
        refusedText();
    }

    /** Three heirs, two seen, one image, three sheets, a fault of each sort, a text without its end. */
    private static CamelParts ordinary() {
        CamelParts x = new CamelParts();
        feed(x, "heir 1 2;heir 2 5;heir 3 7;herd 11;rests;");
        x.text();
        x.see(0, 4);
        x.keep(0);
        x.see(1, 3);
        x.herd(12);
        int[][] cells = {{1, 2, 3, 4}, {5, 6}, {7, 8, 0, 1, 2, 3}};
        for (int k = 0; k < 3; k++) {
            x.sheet(k, k, cells[k].length);
            for (int i = 0; i < cells[k].length; i++) {
                x.lay(k, i, cells[k][i]);
            }
        }
        x.read(0, 1, 0, 1);
        feed(x, ";");
        x.text();
        feed(x, "herd 3;odd");
        return x;
    }

    private static CamelParts full() {
        CamelParts x = new CamelParts();
        feed(x, "heir 9 99;heir 2 5;heir 3 7;heir 4 9;heir 1 1;herd 999;odd;");
        x.text();
        x.keep(0);
        for (int n = 0; n < 6; n++) {
            x.see(n % 5, n);
        }
        x.keep(1);
        for (int k = 0; k < 4; k++) {
            x.sheet(k, 2, 40);
            x.lay(k, 38, 1);
            x.lay(k, 39, 1);
        }
        feed(x, " ".repeat(153) + "herd 5;");
        return x;
    }

    private static void feed(CamelParts x, String text) {
        for (char c : text.toCharArray()) {
            x.feed(c);
        }
    }

    // Whatever can be asked, in few calls, for an object has 512; what the asking itself destroys
    // comes last.
    private static List<Long> probe(CamelParts x) {
        List<Long> told = new ArrayList<>();
        askAll(x, told);
        add(told, x.fault(), x.torn(), x.count(1), x.count(2), x.count(3), x.ask(0), x.ask(1), x.drift(5, 9, 0));
        for (int k = 0; k < 2; k++) {
            add(told, x.back(k));
            askAll(x, told);
        }
        for (int n = 0; n < 5 && x.rule(0) > 0; n++) {
            x.dies(0);
        }
        for (int k = 0; k < 4; k++) {
            probeSheet(x, k, told);
        }
        add(told, x.text());
        askAll(x, told);
        return told;
    }

    private static void askAll(CamelParts x, List<Long> told) {
        add(told, x.rule(0), x.rule(1), x.rule(2), x.rule(3), x.rule(4), x.sum(0), x.sum(1), x.count(0), x.judges());
        for (int i = 0; i < 5; i++) {
            add(told, x.heir(i, 0), x.heir(i, 1), x.heir(i, 2));
        }
        for (int what = 0; what < 3; what++) {
            add(told, x.herds(what), x.downs(0, what));
        }
    }

    private static void probeSheet(CamelParts x, int k, List<Long> told) {
        for (int lane = 0; lane < 3; lane++) {
            for (int f = 0; f < 6; f += 2) {
                int came = x.read(k, lane, f, 1);
                add(told, came);
                if (came > 0) {
                    add(told, x.heir(0, 0), x.heir(0, 1), x.dies(0));
                } else {
                    add(told, x.torn());
                }
            }
        }
        int[] places = {1, 2, 3, 4, 6, 39};
        for (int i : places) {
            add(told, x.lay(k, i, 0));
        }
    }

    private static void add(List<Long> told, long... answers) {
        for (long answer : answers) {
            told.add(answer);
        }
    }

    /** Behind a name: the least and the most of each argument; LEAST and MOST where there is no such bound. */
    private void setBounds(int lastHeir, int seen, int bytes) {
        int i = lastHeir;
        put("feed", 0, 127).put("end", 0, bytes).put("rule", 0, 4).put("heir", 0, i, 0, 3).put("told", 0, i, 0, 1).put("sum", 0, 1);
        put("over", 0, i, 0, 1).put("herd", 0, 999).put("judge", 0, 3).put("bear", 1, 9, 1, 99).put("dies", 0, i);
        put("lend", 0, 1).put("share", 0, i, 0, 999).put("wills", 1, 4, 0, 9).put("will", 1, 4, 0, 9, 0, MOST, 0, 0);
        put("by", 0, 3, 0, i).put("of", 0, 999, 0, i).put("loses", 0, 200, 0, 1).put("keeps", 0, 200, 0, 1).put("best", 0, i);
        put("gains", 0, i, 0, 1).put("wants", 0, i, 0, 999).put("mean", 0, 10, 0, i, 0, 1).put("luck", 0, 10, 0, i, 0, 999, 0, 1);
        put("see", 0, i, 0, 999).put("forget", 0, seen).put("herds", 0, 2).put("downs", 0, i, 0, 2).put("ask", 0, 1);
        put("drift", LEAST, MOST, 1, 60, 0, 1).put("keep", 0, 1).put("back", 0, 1).put("sheet", 0, 3, 0, 2, LEAST, 40);
        put("lay", 0, 3, LEAST, MOST, LEAST, MOST).put("read", 0, 3, 0, 2, LEAST, MOST, 0, 20).put("count", 0, 4);
        put("alter", 0, i, 0, 1, 1, 9).put("unlike", 0, 3, 0, 3).put("text").put("fault").put("judges").put("torn");
    }

    private RefusedEdges put(String name, int... lowAndHigh) {
        bounds.put(name, lowAndHigh);
        return this;
    }

    private void callAll() throws Exception {
        Due.due("calls of the face", bounds.size(), 42);
        for (Method m : CamelParts.class.getDeclaredMethods()) {
            if (bounds.containsKey(m.getName())) {
                callEdges(m, new Object[m.getParameterCount()], 0, false);
                callFar(m);
            }
        }
    }

    private int low(String name, int argument) {
        return bounds.get(name)[2 * argument];
    }

    private int high(String name, int argument) {
        return bounds.get(name)[2 * argument + 1];
    }

    // Two bounds hang on an argument ahead: alter()'s v on what, will()'s i on n.
    private int high(String name, int argument, Object[] args) {
        if (name.equals("alter") && argument == 2) {
            return args[1].equals(1) ? 99 : 9;
        }
        return name.equals("will") && argument == 3 ? (Integer) args[0] - 1 : high(name, argument);
    }

    private void callEdges(Method m, Object[] args, int at, boolean isOutside) throws Exception {
        if (at == args.length) {
            call(m, args, isOutside);
            return;
        }
        int low = low(m.getName(), at);
        int high = high(m.getName(), at, args);
        if (low <= high) {
            args[at] = low;
            callEdges(m, args, at + 1, isOutside);
            args[at] = high;
            callEdges(m, args, at + 1, isOutside);
        }
        if (low > LEAST) {
            args[at] = low - 1;
            callEdges(m, args, at + 1, true);
        }
        if (high < MOST) {
            args[at] = high + 1;
            callEdges(m, args, at + 1, true);
        }
    }

    private void callFar(Method m) throws Exception {
        for (int at = 0; at < m.getParameterCount(); at++) {
            Object[] args = new Object[m.getParameterCount()];
            for (int other = 0; other < args.length; other++) {
                args[other] = low(m.getName(), other);
            }
            args[at] = LEAST;
            call(m, args, low(m.getName(), at) > LEAST || hasNobody(m));
            args[at] = MOST;
            call(m, args, high(m.getName(), at) < MOST || hasNobody(m));
        }
    }

    // Without heirs there is no heir's place inside its bounds.
    private boolean hasNobody(Method m) {
        for (int at = 0; at < m.getParameterCount(); at++) {
            if (low(m.getName(), at) > high(m.getName(), at)) {
                return true;
            }
        }
        return false;
    }

    private void call(Method m, Object[] args, boolean isOutside) throws Exception {
        CamelParts x = state.get();
        long answer = ((Number) m.invoke(x, args)).longValue();
        String name = m.getName() + Arrays.toString(args);
        if (isOutside) {
            Due.due(name, answer, BAD);
        }
        boolean isRefused = isOutside || answer < 0;
        if ((isRefused || !CHANGERS.contains(m.getName())) && !m.getName().equals("text")) {
            sameAsTwin(name, x);
        }
    }

    private void sameAsTwin(String name, CamelParts x) {
        List<Long> told = probe(x);
        Due.due(name + " changed nothing", told.equals(due) ? 1 : 0, 1);
    }

    private void refused(String name, ToLongFunction<CamelParts> call, long answer) {
        CamelParts x = state.get();
        Due.due(name, call.applyAsLong(x), answer);
        sameAsTwin(name, x);
    }

    private void refusedOrdinary() {
        refused("back(1)", x -> x.back(1), STATE);
        refused("sheet(0, 1, -1)", x -> x.sheet(0, 1, -1), -14);
        refused("sheet(3, 1, min)", x -> x.sheet(3, 1, LEAST), -14);
        refused("lay(3, 0, 1)", x -> x.lay(3, 0, 1), -11);
        refused("lay(0, 4, 9)", x -> x.lay(0, 4, 9), -12);
        refused("lay(0, -1, 9)", x -> x.lay(0, -1, 9), -12);
        refused("read(2, 2, 0, 2)", x -> x.read(2, 2, 0, 2), -21);
        refused("will(1, 0, 0, 0)", x -> x.will(1, 0, 0, 0), NONE);
        refused("share(0, 1)", x -> x.share(0, 1), NONE);
        refused("unlike(1, 1)", x -> x.unlike(1, 1), BAD);
    }

    private void refusedFull() {
        refused("feed(32)", x -> x.feed(32), FULL);
        refused("bear(1, 1)", x -> x.bear(1, 1), FULL);
        refused("see(0, 0)", x -> x.see(0, 0), FULL);
        refused("mean(0, 0, 0)", x -> x.mean(0, 0, 0), STATE);
        refused("luck(0, 0, 0, 0)", x -> x.luck(0, 0, 0, 0), STATE);
        refused("read(0, 2, 38, 1)", x -> x.read(0, 2, 38, 1), -20);
        refused("wants(0, 999)", x -> x.wants(0, 999), NONE);
        refused("lend(1)", x -> x.lend(1), NONE);
    }

    private void refusedEmpty() {
        refused("drift(0, 1, 0)", x -> x.drift(0, 1, 0), STATE);
        refused("back(0)", x -> x.back(0), STATE);
        refused("lay(0, 0, 0)", x -> x.lay(0, 0, 0), -11);
        refused("ask(0)", x -> x.ask(0), NONE);
        refused("count(3)", x -> x.count(3), NONE);
    }

    // Its fault is that of the text before, so the tape alone is another.
    private static void refusedText() {
        CamelParts x = ordinary();
        CamelParts twin = ordinary();
        Due.due("text()", x.text(), -20);
        Due.due("the tape is empty", x.count(2), 0);
        Due.due("end(0)", twin.end(0), 10);
        Due.due("all else is as it was", probe(x).equals(probe(twin)) ? 1 : 0, 1);
    }
}

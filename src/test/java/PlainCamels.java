import java.math.BigInteger;
import java.util.ArrayList;
import java.util.List;
import java.util.function.IntPredicate;
import java.util.regex.Matcher;
import java.util.regex.Pattern;

/**
 * The document written once more, as plainly and slowly as can be, with the library and the
 * machine's own exceptions: what CamelParts answers is held against it.
 */
final class PlainCamels {
    static final int BAD = -1, STATE = -2, FULL = -3, NONE = -4;

    record Frac(BigInteger up, BigInteger down) {
        static Frac of(long up, long down) {
            return of(BigInteger.valueOf(up), BigInteger.valueOf(down));
        }

        static Frac of(BigInteger up, BigInteger down) {
            BigInteger g = up.gcd(down);
            return new Frac(up.divide(g), down.divide(g));
        }

        Frac plus(Frac o) {
            return of(up.multiply(o.down).add(o.up.multiply(down)), down.multiply(o.down));
        }

        Frac minus(Frac o) {
            return plus(new Frac(o.up.negate(), o.down));
        }

        Frac times(Frac o) {
            return of(up.multiply(o.up), down.multiply(o.down));
        }

        Frac by(Frac o) {
            return of(up.multiply(o.down), down.multiply(o.up));
        }

        int compare(Frac o) {
            return up.multiply(o.down).compareTo(o.up.multiply(down));
        }

        int floor() {
            return up.divide(down).intValueExact();
        }

        long tell(int what) {
            return (what == 0 ? up : down).longValueExact();
        }
    }

    record Part(int up, int down) {
        Frac frac() {
            return Frac.of(up, down);
        }
    }

    record Seen(int heir, int got) {
    }

    record All(int herd, int kind, List<Part> parts, List<Seen> seen) {
    }

    private All now = new All(17, 0, List.of(), List.of());
    private final All[] images = new All[2];
    private final StringBuilder tape = new StringBuilder();
    private final Object[] sheets = new Object[4];
    private int fault = 0;
    private int torn = 0;

    // ---- the text

    int feed(int c) {
        if (c < 0 || c > 127) {
            return BAD;
        }
        if (tape.length() == 160) {
            return FULL;
        }
        tape.append((char) c);
        return tape.length();
    }

    int end(int n) {
        if (n < 0 || n > tape.length()) {
            return BAD;
        }
        int had = tape.length();
        tape.setLength(n);
        return had;
    }

    private static final class Flaw extends Exception {
        private static final long serialVersionUID = 1L;
        final int place;
        final int fault;

        Flaw(int place, int fault) {
            this.place = place;
            this.fault = fault;
        }
    }

    private static final Pattern TOKEN = Pattern.compile(" *([a-z]+|[0-9]+|;|\\z|.)", Pattern.DOTALL);

    private String token;
    private int tokenAt;
    private int tokenEnd;

    private void next(String text) throws Flaw {
        Matcher m = TOKEN.matcher(text);
        m.region(tokenEnd, text.length());
        m.lookingAt();
        token = m.group(1);
        tokenAt = m.start(1);
        tokenEnd = m.end(1);
        if (!token.matches("[a-z]+|[0-9]{1,3}|;|")) {
            throw new Flaw(tokenAt, 1);
        }
    }

    private int number(String text, int low, int high) throws Flaw {
        if (!token.matches("[0-9]+")) {
            throw new Flaw(tokenAt, 2);
        }
        int v = Integer.parseInt(token);
        if (v < low || v > high) {
            throw new Flaw(tokenAt, 3);
        }
        next(text);
        return v;
    }

    int text() {
        String text = tape.toString();
        tape.setLength(0);
        List<String> judges = List.of("told", "rests", "row", "odd");
        Integer herd = null;
        Integer kind = null;
        List<Part> parts = new ArrayList<>();
        int lines = 0;
        try {
            tokenEnd = 0;
            next(text);
            while (!token.isEmpty()) {
                int at = tokenAt;
                if (token.equals("heir")) {
                    if (parts.size() == 5) {
                        throw new Flaw(at, 5);
                    }
                    next(text);
                    int up = number(text, 1, 9);
                    parts.add(new Part(up, number(text, 1, 99)));
                } else if (token.equals("herd")) {
                    if (herd != null) {
                        throw new Flaw(at, 4);
                    }
                    next(text);
                    herd = number(text, 0, 999);
                } else if (judges.contains(token)) {
                    if (kind != null) {
                        throw new Flaw(at, 4);
                    }
                    kind = judges.indexOf(token);
                    next(text);
                } else {
                    throw new Flaw(at, 2);
                }
                if (!token.equals(";")) {
                    throw new Flaw(tokenAt, 2);
                }
                lines++;
                next(text);
            }
        } catch (Flaw f) {
            fault = f.fault;
            return -10 - f.place;
        }
        fault = 0;
        now = new All(herd == null ? 17 : herd, kind == null ? 0 : kind, parts, List.of());
        images[0] = null;
        images[1] = null;
        return lines;
    }

    int fault() {
        return fault;
    }

    private static Frac sumOf(List<Part> parts) {
        Frac sum = Frac.of(0, 1);
        for (Part p : parts) {
            sum = sum.plus(p.frac());
        }
        return sum;
    }

    private static Frac quota(List<Part> parts, int herd, int i) {
        return Frac.of(herd, 1).times(parts.get(i).frac()).by(sumOf(parts));
    }

    static int[] gets(List<Part> parts, int herd, int kind) {
        int n = parts.size();
        int[] gets = new int[n];
        if (n == 0) {
            return gets;
        }
        if (kind == 0) {
            int left = herd;
            for (int i = 0; i < n; i++) {
                gets[i] = Math.min(left, herd * parts.get(i).up() / parts.get(i).down());
                left -= gets[i];
            }
        } else if (kind == 1) {
            getsByRests(parts, herd, gets);
        } else {
            for (int given = 0; given < herd; given++) {
                int best = -1;
                for (int i = n - 1; i >= 0; i--) {
                    if (best < 0 || rowCompare(parts, gets, i, best, kind - 1) >= 0) {
                        best = i;
                    }
                }
                gets[best]++;
            }
        }
        return gets;
    }

    private static int rowCompare(List<Part> parts, int[] gets, int i, int j, int step) {
        Part p = parts.get(i);
        Part q = parts.get(j);
        return Long.compare((long) p.up() * q.down() * (gets[j] * step + 1), (long) q.up() * p.down() * (gets[i] * step + 1));
    }

    private static void getsByRests(List<Part> parts, int herd, int[] gets) {
        int left = herd;
        Frac[] rests = new Frac[gets.length];
        for (int i = 0; i < gets.length; i++) {
            Frac q = quota(parts, herd, i);
            gets[i] = q.floor();
            rests[i] = q.minus(Frac.of(gets[i], 1));
            left -= gets[i];
        }
        boolean[] had = new boolean[gets.length];
        for (; left > 0; left--) {
            int best = -1;
            for (int i = 0; i < gets.length; i++) {
                if (!had[i] && (best < 0 || rests[i].compare(rests[best]) > 0)) {
                    best = i;
                }
            }
            had[best] = true;
            gets[best]++;
        }
    }

    private int[] gets() {
        return gets(now.parts, now.herd, now.kind);
    }

    private static boolean off(List<Part> parts, int herd, int i, int got) {
        Frac d = Frac.of(got, 1).minus(quota(parts, herd, i));
        return d.compare(Frac.of(1, 1)) >= 0 || d.compare(Frac.of(-1, 1)) <= 0;
    }

    private boolean noHeir(int i) {
        return i < 0 || i >= now.parts.size();
    }

    private static boolean out(int v, int low, int high) {
        return v < low || v > high;
    }

    int rule(int what) {
        return switch (what) {
            case 0 -> now.parts.size();
            case 1 -> now.herd;
            case 2 -> now.kind;
            case 3 -> sumOf(now.parts).compare(Frac.of(1, 1)) + 1;
            case 4 -> total(gets());
            default -> BAD;
        };
    }

    private static int total(int[] row) {
        int t = 0;
        for (int v : row) {
            t += v;
        }
        return t;
    }

    int heir(int i, int what) {
        if (noHeir(i)) {
            return BAD;
        }
        return switch (what) {
            case 0 -> now.parts.get(i).up();
            case 1 -> now.parts.get(i).down();
            case 2 -> gets()[i];
            case 3 -> off(now.parts, now.herd, i, gets()[i]) ? 1 : 0;
            default -> BAD;
        };
    }

    private Frac toldTo(int i) {
        return Frac.of(now.herd, 1).times(now.parts.get(i).frac());
    }

    long told(int i, int what) {
        return noHeir(i) || out(what, 0, 1) ? BAD : toldTo(i).tell(what);
    }

    long sum(int what) {
        return out(what, 0, 1) ? BAD : sumOf(now.parts).tell(what);
    }

    long over(int i, int what) {
        return noHeir(i) || out(what, 0, 1) ? BAD : Frac.of(gets()[i], 1).minus(toldTo(i)).tell(what);
    }

    // ---- what is changed

    private static List<Part> with(List<Part> parts, int i, Part p) {
        List<Part> made = new ArrayList<>(parts);
        made.set(i, p);
        return made;
    }

    private static List<Part> without(List<Part> parts, int i) {
        List<Part> made = new ArrayList<>(parts);
        made.remove(i);
        return made;
    }

    private void setParts(List<Part> parts) {
        now = new All(now.herd, now.kind, parts, now.seen);
    }

    int alter(int i, int what, int v) {
        if (noHeir(i) || out(what, 0, 1) || out(v, 1, what == 0 ? 9 : 99)) {
            return BAD;
        }
        Part p = now.parts.get(i);
        setParts(with(now.parts, i, what == 0 ? new Part(v, p.down()) : new Part(p.up(), v)));
        return what == 0 ? p.up() : p.down();
    }

    int herd(int v) {
        if (out(v, 0, 999)) {
            return BAD;
        }
        int was = now.herd;
        now = new All(v, now.kind, now.parts, now.seen);
        return was;
    }

    int judge(int kind) {
        if (out(kind, 0, 3)) {
            return BAD;
        }
        int was = now.kind;
        now = new All(now.herd, kind, now.parts, now.seen);
        return was;
    }

    int bear(int up, int down) {
        if (out(up, 1, 9) || out(down, 1, 99)) {
            return BAD;
        }
        if (now.parts.size() == 5) {
            return FULL;
        }
        List<Part> made = new ArrayList<>(now.parts);
        made.add(new Part(up, down));
        setParts(made);
        return made.size();
    }

    int dies(int i) {
        if (noHeir(i)) {
            return BAD;
        }
        setParts(without(now.parts, i));
        return now.parts.size();
    }

    // ---- lending

    int lend(int what) {
        if (out(what, 0, 1)) {
            return BAD;
        }
        for (int l = 0; l <= 999; l++) {
            boolean fits = true;
            Frac all = Frac.of(0, 1);
            for (Part p : now.parts) {
                Frac has = p.frac().times(Frac.of(now.herd + l, 1));
                fits &= has.down().equals(BigInteger.ONE);
                all = all.plus(has);
            }
            if (fits && (what == 0 || all.compare(Frac.of(now.herd, 1)) == 0)) {
                return l;
            }
        }
        return NONE;
    }

    int share(int i, int n) {
        if (noHeir(i) || out(n, 0, 999)) {
            return BAD;
        }
        Frac has = now.parts.get(i).frac().times(Frac.of(now.herd + n, 1));
        return has.down().equals(BigInteger.ONE) ? has.floor() : NONE;
    }

    private List<int[]> allWills(int n, int l) {
        int all = now.herd + l;
        List<int[]> found = new ArrayList<>();
        List<Integer> downs = new ArrayList<>();
        for (int a = 2; a <= all; a++) {
            if (all % a == 0) {
                downs.add(a);
            }
        }
        extend(new int[n], 0, downs, all, found);
        return found;
    }

    private void extend(int[] row, int at, List<Integer> downs, int all, List<int[]> found) {
        if (at == row.length) {
            int sum = 0;
            for (int a : row) {
                sum += all / a;
            }
            if (sum == now.herd) {
                found.add(row.clone());
            }
            return;
        }
        for (int a : downs) {
            if (at == 0 || a >= row[at - 1]) {
                row[at] = a;
                extend(row, at + 1, downs, all, found);
            }
        }
    }

    int wills(int n, int l) {
        return out(n, 1, 4) || out(l, 0, 9) ? BAD : allWills(n, l).size();
    }

    int will(int n, int l, int k, int i) {
        if (out(n, 1, 4) || out(l, 0, 9) || k < 0 || out(i, 0, n - 1)) {
            return BAD;
        }
        List<int[]> found = allWills(n, l);
        return k < found.size() ? found.get(k)[i] : NONE;
    }

    // ---- judges

    int by(int kind, int i) {
        return out(kind, 0, 3) || noHeir(i) ? BAD : gets(now.parts, now.herd, kind)[i];
    }

    int of(int v, int i) {
        return out(v, 0, 999) || noHeir(i) ? BAD : gets(now.parts, v, now.kind)[i];
    }

    int loses(int n, int what) {
        if (out(n, 0, 200) || out(what, 0, 1)) {
            return BAD;
        }
        for (int v = 0; v <= n; v++) {
            int[] of = gets(now.parts, v, now.kind);
            int[] more = gets(now.parts, v + 1, now.kind);
            for (int i = 0; i < of.length; i++) {
                if (more[i] < of[i]) {
                    return what == 0 ? v : i;
                }
            }
        }
        return NONE;
    }

    int keeps(int n, int what) {
        if (out(n, 0, 200) || out(what, 0, 1)) {
            return BAD;
        }
        for (int v = 0; v <= n; v++) {
            int[] of = gets(now.parts, v, now.kind);
            for (int i = 0; i < of.length; i++) {
                if (off(now.parts, v, i, of[i])) {
                    return what == 0 ? v : i;
                }
            }
        }
        return NONE;
    }

    int unlike(int k, int l) {
        if (out(k, 0, 3) || out(l, 0, 3) || k == l) {
            return BAD;
        }
        for (int v = 0; v <= 200; v++) {
            if (!java.util.Arrays.equals(gets(now.parts, v, k), gets(now.parts, v, l))) {
                return v;
            }
        }
        return NONE;
    }

    int best(int i) {
        if (noHeir(i)) {
            return BAD;
        }
        int best = 3;
        for (int kind = 2; kind >= 0; kind--) {
            if (by(kind, i) >= by(best, i)) {
                best = kind;
            }
        }
        return best;
    }

    int gains(int i, int what) {
        if (noHeir(i) || out(what, 0, 1)) {
            return BAD;
        }
        int who = NONE;
        int most = 0;
        for (int j = now.parts.size() - 1; j >= 0; j--) {
            if (j != i) {
                int more = gets(without(now.parts, j), now.herd, now.kind)[j < i ? i - 1 : i] - gets()[i];
                if (more > 0 && more >= most) {
                    most = more;
                    who = j;
                }
            }
        }
        return who == NONE ? NONE : what == 0 ? who : most;
    }

    int wants(int i, int n) {
        if (noHeir(i) || out(n, 0, 999)) {
            return BAD;
        }
        for (int v = 0; v <= 999; v++) {
            if (v >= n && gets(now.parts, v, now.kind)[i] >= n) {
                return v;
            }
        }
        return NONE;
    }

    // ---- camels that die

    /** By all ways, camel by camel, of which alive ones stay: up by 10 to the herd's power. */
    private Frac chance(int v, int alive) {
        Frac[] row = new Frac[now.herd + 1];
        java.util.Arrays.fill(row, Frac.of(0, 1));
        row[0] = Frac.of(1, 1);
        for (int c = 0; c < now.herd; c++) {
            for (int a = c + 1; a >= 0; a--) {
                Frac dead = row[a].times(Frac.of(v, 10));
                row[a] = a == 0 ? dead : dead.plus(row[a - 1].times(Frac.of(10 - v, 10)));
            }
        }
        return row[alive];
    }

    long mean(int v, int i, int what) {
        if (out(v, 0, 10) || noHeir(i) || out(what, 0, 1)) {
            return BAD;
        }
        if (now.herd > 12) {
            return STATE;
        }
        Frac mean = Frac.of(0, 1);
        for (int a = 0; a <= now.herd; a++) {
            mean = mean.plus(chance(v, a).times(Frac.of(gets(now.parts, a, now.kind)[i], 1)));
        }
        return mean.tell(what);
    }

    long luck(int v, int i, int n, int what) {
        if (out(v, 0, 10) || noHeir(i) || out(n, 0, 999) || out(what, 0, 1)) {
            return BAD;
        }
        if (now.herd > 12) {
            return STATE;
        }
        Frac luck = Frac.of(0, 1);
        for (int a = 0; a <= now.herd; a++) {
            if (gets(now.parts, a, now.kind)[i] >= n) {
                luck = luck.plus(chance(v, a));
            }
        }
        return luck.tell(what);
    }

    // ---- how the will had read

    int see(int i, int v) {
        if (noHeir(i) || out(v, 0, 999)) {
            return BAD;
        }
        if (now.seen.size() == 6) {
            return FULL;
        }
        List<Seen> made = new ArrayList<>(now.seen);
        made.add(new Seen(i, v));
        now = new All(now.herd, now.kind, now.parts, made);
        return made.size();
    }

    int forget(int n) {
        if (out(n, 0, now.seen.size())) {
            return BAD;
        }
        int were = now.seen.size();
        now = new All(now.herd, now.kind, now.parts, now.seen.subList(0, n));
        return were;
    }

    private boolean asSeen(List<Part> parts, int herd, int kind) {
        int[] gets = gets(parts, herd, kind);
        for (Seen s : now.seen) {
            if (s.heir >= gets.length || gets[s.heir] != s.got) {
                return false;
            }
        }
        return true;
    }

    int judges() {
        int bits = 0;
        for (int kind = 0; kind < 4; kind++) {
            bits += asSeen(now.parts, now.herd, kind) ? 1 << kind : 0;
        }
        return bits;
    }

    private static List<Integer> found(int low, int high, IntPredicate fits) {
        List<Integer> found = new ArrayList<>();
        for (int v = low; v <= high; v++) {
            if (fits.test(v)) {
                found.add(v);
            }
        }
        return found;
    }

    private static int tell(List<Integer> found, int what) {
        if (what == 0) {
            return found.size();
        }
        return found.isEmpty() ? NONE : found.get(what == 1 ? 0 : found.size() - 1);
    }

    private List<Integer> herdsFound() {
        return found(0, 200, v -> asSeen(now.parts, v, now.kind));
    }

    int herds(int what) {
        return out(what, 0, 2) ? BAD : tell(herdsFound(), what);
    }

    int downs(int i, int what) {
        if (noHeir(i) || out(what, 0, 2)) {
            return BAD;
        }
        int up = now.parts.get(i).up();
        return tell(found(1, 99, d -> asSeen(with(now.parts, i, new Part(up, d)), now.herd, now.kind)), what);
    }

    int ask(int what) {
        if (out(what, 0, 1)) {
            return BAD;
        }
        List<Integer> left = herdsFound();
        int who = NONE;
        int fewest = left.size();
        for (int i = 0; i < now.parts.size(); i++) {
            int worst = 0;
            int[] numbers = new int[1000];
            for (int v : left) {
                worst = Math.max(worst, ++numbers[gets(now.parts, v, now.kind)[i]]);
            }
            if (worst < fewest) {
                fewest = worst;
                who = i;
            }
        }
        return who == NONE ? NONE : what == 0 ? who : fewest;
    }

    // ---- by a seed

    int drift(int seed, int n, int what) {
        if (out(n, 1, 60) || out(what, 0, 1)) {
            return BAD;
        }
        if (now.parts.isEmpty()) {
            return STATE;
        }
        BigInteger s = BigInteger.valueOf(seed);
        int sum = 0;
        for (int t = 0; t < n; t++) {
            s = s.multiply(BigInteger.valueOf(1103515245)).add(BigInteger.valueOf(12345)).mod(BigInteger.ONE.shiftLeft(32));
            int herd = s.mod(BigInteger.ONE.shiftLeft(31)).shiftRight(16).intValueExact() % 100;
            int[] of = gets(now.parts, herd, now.kind);
            boolean isOff = false;
            for (int i = 0; i < of.length; i++) {
                isOff |= off(now.parts, herd, i, of[i]);
            }
            sum += what == 0 ? of[0] : isOff ? 1 : 0;
        }
        return sum;
    }

    // ---- images, sheets

    int keep(int k) {
        if (out(k, 0, 1)) {
            return BAD;
        }
        int was = images[k] == null ? 0 : 1;
        images[k] = now;
        return was;
    }

    int back(int k) {
        if (out(k, 0, 1)) {
            return BAD;
        }
        if (images[k] == null) {
            return STATE;
        }
        now = images[k];
        return now.herd;
    }

    int sheet(int k, int lane, int n) {
        if (out(k, 0, 3) || out(lane, 0, 2) || n > 40) {
            return BAD;
        }
        try {
            sheets[k] = lane == 0 ? new byte[n] : lane == 1 ? new short[n] : (Object) new int[n];
            return 1;
        } catch (NegativeArraySizeException e) {
            return -14;
        }
    }

    int lay(int k, int i, int v) {
        if (out(k, 0, 3)) {
            return BAD;
        }
        try {
            if (sheets[k] instanceof byte[] b) {
                b[i] = (byte) v;
            } else if (sheets[k] instanceof short[] s) {
                s[i] = (short) v;
            } else {
                ((int[]) sheets[k])[i] = v;
            }
            return 1;
        } catch (NullPointerException e) {
            return -11;
        } catch (ArrayIndexOutOfBoundsException e) {
            return -12;
        }
    }

    private int cell(int k, int lane, int i) {
        return switch (lane) {
            case 0 -> ((byte[]) sheets[k])[i];
            case 1 -> ((short[]) sheets[k])[i];
            default -> ((int[]) sheets[k])[i];
        };
    }

    int read(int k, int lane, int f, int n) {
        if (out(k, 0, 3) || out(lane, 0, 2) || out(n, 0, 20)) {
            return BAD;
        }
        All before = now;
        int found = 0;
        try {
            for (int i = 0; i < n; i++) {
                int up = cell(k, lane, f + 2 * i);
                int down = cell(k, lane, f + 2 * i + 1);
                if (bear(up, down) < 0) {
                    now = before;
                    return -20 - i;
                }
            }
        } catch (NullPointerException e) {
            found = 1;
        } catch (ArrayIndexOutOfBoundsException e) {
            found = 2;
        } catch (ClassCastException e) {
            found = 3;
        }
        torn = found;
        return now.parts.size() - before.parts.size();
    }

    int torn() {
        return torn;
    }

    int count(int what) {
        return switch (what) {
            case 0 -> now.seen.size();
            case 1 -> (images[0] == null ? 0 : 1) + (images[1] == null ? 0 : 1);
            case 2 -> tape.length();
            case 3 -> sheets[0] == null ? NONE : java.lang.reflect.Array.getLength(sheets[0]);
            case 4 -> now.herd - total(gets());
            default -> BAD;
        };
    }
}

/**
 * Herds parted among heirs by told parts: what is told, what judges give, what is to be lent,
 * and how the will had read from who rode off with what.
 */
public final class CamelParts {
    public static final int BAD = -1, STATE = -2, FULL = -3, NONE = -4;

    private static final int MOST_HEIRS = 5;
    private static final int MOST_UP = 9;
    private static final int MOST_DOWN = 99;
    private static final int MOST_CAMELS = 999;
    private static final int FIRST_CAMELS = 17;
    private static final int MOST_LENT = 999;
    private static final int MOST_SEEN = 6;
    private static final int MOST_SEARCHED = 200;
    private static final int MOST_MORTAL = 12;
    private static final int MOST_DRIFTS = 60;
    private static final int MOST_READ = 20;
    private static final int IMAGES = 2;

    private static final int KINDS = 4;
    private static final int BY_TOLD = 0, BY_RESTS = 1, BY_ROW = 2, BY_ODD = 3;

    private static final int TAPE_BYTES = 160;
    private static final int MOST_FIGURES = 3;
    private static final int NO_TOKEN = 1, MISPLACED = 2, OUT_OF_BOUNDS = 3, TWICE = 4, SIXTH = 5;

    private static final int SHEETS = 4;
    private static final int LANES = 3;
    private static final int MOST_CELLS = 40;
    private static final int NULL = 1, INDEX = 2, CAST = 3, SIZE = 4;

    private static final int WILL_HEIRS = 4;
    private static final int WILL_LENT = 9;

    private final Estate estate = new Estate();
    private final Estate scratch = new Estate();
    private final Estate[] images = new Estate[IMAGES];
    private final boolean[] kept = new boolean[IMAGES];
    private final Parting parting = new Parting();
    private final Parting rival = new Parting();
    private final Script script = new Script();
    private final WillSearch search = new WillSearch();
    private final Finds finds = new Finds();
    private final int[] tally = new int[MOST_SEARCHED + 1];
    private final Sheet[] sheets = new Sheet[SHEETS];
    private int tornBy = 0;

    public CamelParts() {
        for (int k = 0; k < IMAGES; k++) {
            images[k] = new Estate();
        }
        for (int k = 0; k < SHEETS; k++) {
            sheets[k] = new Sheet();
        }
    }

    // ---- the text

    public int feed(int c) {
        if (!within(c, 0, 127)) {
            return BAD;
        }
        return script.tape.append(c);
    }

    public int end(int n) {
        int had = script.tape.length;
        if (!within(n, 0, had)) {
            return BAD;
        }
        script.tape.length = n;
        return had;
    }

    public int text() {
        script.parse();
        script.tape.length = 0;
        if (script.flaw != 0) {
            return -10 - script.place;
        }
        estate.copy(script.draft);
        for (int k = 0; k < IMAGES; k++) {
            kept[k] = false;
        }
        return script.lines;
    }

    public int fault() {
        return script.flaw;
    }

    public int rule(int what) {
        switch (what) {
            case 0:
                return estate.heirs;
            case 1:
                return estate.camels;
            case 2:
                return estate.kind;
            case 3:
                parting.load(estate);
                return 1 + Long.compare(parting.all, parting.common);
            case 4:
                return partNow().given();
            default:
                return BAD;
        }
    }

    public int heir(int i, int what) {
        if (!estate.has(i)) {
            return BAD;
        }
        switch (what) {
            case 0:
                return estate.ups[i];
            case 1:
                return estate.downs[i];
            case 2:
                return partNow().got(i);
            case 3:
                return partNow().isOff(i) ? 1 : 0;
            default:
                return BAD;
        }
    }

    public long told(int i, int what) {
        if (!estate.has(i) || !within(what, 0, 1)) {
            return BAD;
        }
        return fraction((long) estate.camels * estate.ups[i], estate.downs[i], what);
    }

    public long sum(int what) {
        if (!within(what, 0, 1)) {
            return BAD;
        }
        parting.load(estate);
        return fraction(parting.all, parting.common, what);
    }

    public long over(int i, int what) {
        if (!estate.has(i) || !within(what, 0, 1)) {
            return BAD;
        }
        long up = (long) partNow().got(i) * estate.downs[i] - (long) estate.camels * estate.ups[i];
        return fraction(up, estate.downs[i], what);
    }

    // ---- what is changed

    public int alter(int i, int what, int v) {
        if (!estate.has(i)) {
            return BAD;
        }
        int was = BAD;
        if (what == 0 && within(v, 1, MOST_UP)) {
            was = estate.ups[i];
            estate.ups[i] = v;
        } else if (what == 1 && within(v, 1, MOST_DOWN)) {
            was = estate.downs[i];
            estate.downs[i] = v;
        }
        return was;
    }

    public int herd(int v) {
        if (!isHerd(v)) {
            return BAD;
        }
        int was = estate.camels;
        estate.camels = v;
        return was;
    }

    public int judge(int kind) {
        if (!isKind(kind)) {
            return BAD;
        }
        int was = estate.kind;
        estate.kind = kind;
        return was;
    }

    public int bear(int up, int down) {
        return estate.add(up, down);
    }

    public int dies(int i) {
        if (!estate.has(i)) {
            return BAD;
        }
        estate.remove(i);
        return estate.heirs;
    }

    // ---- lending

    public int lend(int what) {
        if (!within(what, 0, 1)) {
            return BAD;
        }
        for (int lent = 0; lent <= MOST_LENT; lent++) {
            int shared = sharedWhole(estate.camels + lent);
            if (shared >= 0 && (what == 0 || shared == estate.camels)) {
                return lent;
            }
        }
        return NONE;
    }

    public int share(int i, int n) {
        if (!estate.has(i) || !within(n, 0, MOST_LENT)) {
            return BAD;
        }
        return wholePart(i, estate.camels + n);
    }

    public int wills(int n, int l) {
        if (!within(n, 1, WILL_HEIRS) || !within(l, 0, WILL_LENT)) {
            return BAD;
        }
        search.run(estate.camels, l, n, -1);
        return search.found;
    }

    public int will(int n, int l, int k, int i) {
        if (!within(n, 1, WILL_HEIRS) || !within(l, 0, WILL_LENT) || k < 0 || !within(i, 0, n - 1)) {
            return BAD;
        }
        search.run(estate.camels, l, n, k);
        return search.found > k ? search.row[i] : NONE;
    }

    // ---- judges

    public int by(int kind, int i) {
        if (!isKind(kind) || !estate.has(i)) {
            return BAD;
        }
        parting.load(estate);
        parting.part(kind, estate.camels);
        return parting.got(i);
    }

    public int of(int v, int i) {
        if (!isHerd(v) || !estate.has(i)) {
            return BAD;
        }
        return partOf(v).got(i);
    }

    public int loses(int n, int what) {
        if (!within(n, 0, MOST_SEARCHED) || !within(what, 0, 1)) {
            return BAD;
        }
        partOf(0);
        for (int v = 0; v <= n; v++) {
            parting.grow();
            int loser = parting.firstLoser();
            if (loser >= 0) {
                return what == 0 ? v : loser;
            }
        }
        return NONE;
    }

    public int keeps(int n, int what) {
        if (!within(n, 0, MOST_SEARCHED) || !within(what, 0, 1)) {
            return BAD;
        }
        partOf(0);
        for (int v = 0; v <= n; v++) {
            int off = parting.firstOff();
            if (off >= 0) {
                return what == 0 ? v : off;
            }
            parting.grow();
        }
        return NONE;
    }

    public int unlike(int k, int l) {
        if (!isKind(k) || !isKind(l) || k == l) {
            return BAD;
        }
        parting.load(estate);
        parting.part(k, 0);
        rival.load(estate);
        rival.part(l, 0);
        for (int v = 0; v <= MOST_SEARCHED; v++) {
            if (!parting.givesAs(rival)) {
                return v;
            }
            parting.grow();
            rival.grow();
        }
        return NONE;
    }

    public int best(int i) {
        if (!estate.has(i)) {
            return BAD;
        }
        int best = 0;
        int most = -1;
        parting.load(estate);
        for (int kind = 0; kind < KINDS; kind++) {
            parting.part(kind, estate.camels);
            if (parting.got(i) > most) {
                most = parting.got(i);
                best = kind;
            }
        }
        return best;
    }

    public int gains(int i, int what) {
        if (!estate.has(i) || !within(what, 0, 1)) {
            return BAD;
        }
        int now = partNow().got(i);
        int most = 0;
        int dead = NONE;
        for (int j = 0; j < estate.heirs; j++) {
            int more = j == i ? 0 : getsWithout(i, j) - now;
            if (more > most) {
                most = more;
                dead = j;
            }
        }
        return what == 0 || dead == NONE ? dead : most;
    }

    public int wants(int i, int n) {
        if (!estate.has(i) || !isHerd(n)) {
            return BAD;
        }
        partOf(0);
        for (int v = 0; v <= MOST_CAMELS; v++) {
            if (parting.got(i) >= n) {
                return v;
            }
            parting.grow();
        }
        return NONE;
    }

    // ---- camels that die

    public long mean(int v, int i, int what) {
        if (!within(v, 0, 10) || !estate.has(i) || !within(what, 0, 1)) {
            return BAD;
        }
        if (estate.camels > MOST_MORTAL) {
            return STATE;
        }
        long total = 0;
        partOf(0);
        for (int alive = 0; alive <= estate.camels; alive++) {
            total += odds(estate.camels, alive, v) * parting.got(i);
            parting.grow();
        }
        return fraction(total, power(10, estate.camels), what);
    }

    public long luck(int v, int i, int n, int what) {
        if (!within(v, 0, 10) || !estate.has(i) || !isHerd(n) || !within(what, 0, 1)) {
            return BAD;
        }
        if (estate.camels > MOST_MORTAL) {
            return STATE;
        }
        long total = 0;
        partOf(0);
        for (int alive = 0; alive <= estate.camels; alive++) {
            if (parting.got(i) >= n) {
                total += odds(estate.camels, alive, v);
            }
            parting.grow();
        }
        return fraction(total, power(10, estate.camels), what);
    }

    // ---- how the will had read

    public int see(int i, int v) {
        if (!estate.has(i) || !isHerd(v)) {
            return BAD;
        }
        return estate.addSeen(i, v);
    }

    public int forget(int n) {
        int were = estate.seen;
        if (!within(n, 0, were)) {
            return BAD;
        }
        estate.seen = n;
        return were;
    }

    public int judges() {
        int bits = 0;
        parting.load(estate);
        for (int kind = 0; kind < KINDS; kind++) {
            parting.part(kind, estate.camels);
            if (parting.isAsSeen(estate)) {
                bits |= 1 << kind;
            }
        }
        return bits;
    }

    public int herds(int what) {
        if (!within(what, 0, 2)) {
            return BAD;
        }
        findHerds();
        return finds.answer(what);
    }

    public int downs(int i, int what) {
        if (!estate.has(i) || !within(what, 0, 2)) {
            return BAD;
        }
        finds.clear();
        scratch.copy(estate);
        for (int down = 1; down <= MOST_DOWN; down++) {
            scratch.downs[i] = down;
            parting.load(scratch);
            parting.part(estate.kind, estate.camels);
            if (parting.isAsSeen(estate)) {
                finds.note(down);
            }
        }
        return finds.answer(what);
    }

    public int ask(int what) {
        if (!within(what, 0, 1)) {
            return BAD;
        }
        findHerds();
        int fewest = finds.number;
        int asked = NONE;
        for (int i = 0; i < estate.heirs; i++) {
            int left = leftAtWorst(i);
            if (left < fewest) {
                fewest = left;
                asked = i;
            }
        }
        return what == 0 || asked == NONE ? asked : fewest;
    }

    // ---- by a seed

    public int drift(int seed, int n, int what) {
        if (!within(n, 1, MOST_DRIFTS) || !within(what, 0, 1)) {
            return BAD;
        }
        if (estate.heirs == 0) {
            return STATE;
        }
        int total = 0;
        int next = seed;
        parting.load(estate);
        for (int t = 0; t < n; t++) {
            next = next * 1103515245 + 12345;
            parting.part(estate.kind, (next >>> 16 & 0x7fff) % 100);
            if (what == 0) {
                total += parting.got(0);
            } else if (parting.firstOff() >= 0) {
                total++;
            }
        }
        return total;
    }

    // ---- images, sheets

    public int keep(int k) {
        if (!within(k, 0, IMAGES - 1)) {
            return BAD;
        }
        int was = kept[k] ? 1 : 0;
        images[k].copy(estate);
        kept[k] = true;
        return was;
    }

    public int back(int k) {
        if (!within(k, 0, IMAGES - 1)) {
            return BAD;
        }
        if (!kept[k]) {
            return STATE;
        }
        estate.copy(images[k]);
        return estate.camels;
    }

    public int sheet(int k, int lane, int n) {
        if (!isSheet(k) || !isLane(lane) || n > MOST_CELLS) {
            return BAD;
        }
        if (n < 0) {
            return -10 - SIZE;
        }
        sheets[k].renew(lane, n);
        return 1;
    }

    public int lay(int k, int i, int v) {
        if (!isSheet(k)) {
            return BAD;
        }
        int flaw = sheets[k].flawAt(i);
        if (flaw != 0) {
            return -10 - flaw;
        }
        sheets[k].put(i, v);
        return 1;
    }

    public int read(int k, int lane, int f, int n) {
        if (!isSheet(k) || !isLane(lane) || !within(n, 0, MOST_READ)) {
            return BAD;
        }
        Sheet from = sheets[k];
        int before = estate.heirs;
        int flaw = 0;
        for (int i = 0; i < n && flaw == 0; i++) {
            int at = f + 2 * i;
            flaw = from.pairFlaw(lane, at);
            if (flaw == 0 && estate.add(from.cell(at), from.cell(at + 1)) < 0) {
                estate.heirs = before;
                return -20 - i;
            }
        }
        tornBy = flaw;
        return estate.heirs - before;
    }

    public int torn() {
        return tornBy;
    }

    public int count(int what) {
        switch (what) {
            case 0:
                return estate.seen;
            case 1:
                return (kept[0] ? 1 : 0) + (kept[1] ? 1 : 0);
            case 2:
                return script.tape.length;
            case 3:
                return sheets[0].size < 0 ? NONE : sheets[0].size;
            case 4:
                return estate.camels - partNow().given();
            default:
                return BAD;
        }
    }

    // ---- what the calls have in common

    private static boolean within(int v, int low, int high) {
        return v >= low && v <= high;
    }

    private static boolean isHerd(int v) {
        return within(v, 0, MOST_CAMELS);
    }

    private static boolean isKind(int v) {
        return within(v, 0, KINDS - 1);
    }

    private static boolean isSheet(int v) {
        return within(v, 0, SHEETS - 1);
    }

    private static boolean isLane(int v) {
        return within(v, 0, LANES - 1);
    }

    // The two divisions that all others go through, so that no divisor is ever 0.
    private static long quotient(long a, long b) {
        return b > 0 ? a / b : 0;
    }

    private static long remainder(long a, long b) {
        return b > 0 ? a % b : 0;
    }

    /** The numerator (what 0) or the denominator (what 1) of up by down in lowest terms. */
    private static long fraction(long up, long down, int what) {
        long common = divisor(Math.abs(up), down);
        return quotient(what == 0 ? up : down, common);
    }

    // Euclid's steps on longs are fewer than a hundred.
    private static long divisor(long a, long b) {
        long high = a;
        long low = b;
        for (int step = 0; step < 100 && low != 0; step++) {
            long rest = remainder(high, low);
            high = low;
            low = rest;
        }
        return high;
    }

    private static long power(int base, int times) {
        long product = 1;
        for (int t = 0; t < times; t++) {
            product *= base;
        }
        return product;
    }

    /** Out of 10 to the herd's power: that so many are alive when each dies by v out of ten. */
    private static long odds(int camels, int alive, int v) {
        long ways = 1;
        for (int t = 1; t <= alive; t++) {
            ways = quotient(ways * (camels - alive + t), t);
        }
        return ways * power(10 - v, alive) * power(v, camels - alive);
    }

    private Parting partOf(int camels) {
        parting.load(estate);
        parting.part(estate.kind, camels);
        return parting;
    }

    private Parting partNow() {
        return partOf(estate.camels);
    }

    private int wholePart(int i, int camels) {
        long up = (long) camels * estate.ups[i];
        return remainder(up, estate.downs[i]) == 0 ? (int) quotient(up, estate.downs[i]) : NONE;
    }

    /** What all heirs have of so many camels by their parts; NONE if one part is not whole. */
    private int sharedWhole(int camels) {
        int shared = 0;
        for (int i = 0; i < estate.heirs; i++) {
            int part = wholePart(i, camels);
            if (part < 0) {
                return NONE;
            }
            shared += part;
        }
        return shared;
    }

    private int getsWithout(int i, int dead) {
        scratch.copy(estate);
        scratch.remove(dead);
        parting.load(scratch);
        parting.part(estate.kind, estate.camels);
        return parting.got(dead < i ? i - 1 : i);
    }

    private void findHerds() {
        finds.clear();
        partOf(0);
        for (int v = 0; v <= MOST_SEARCHED; v++) {
            if (parting.isAsSeen(estate)) {
                finds.note(v);
            }
            parting.grow();
        }
    }

    /** Of the herds by which all is as seen: how many an heir's answer may leave. */
    private int leftAtWorst(int i) {
        for (int v = 0; v <= MOST_SEARCHED; v++) {
            tally[v] = 0;
        }
        int worst = 0;
        partOf(0);
        for (int v = 0; v <= MOST_SEARCHED; v++) {
            int got = parting.got(i);
            if (within(got, 0, MOST_SEARCHED) && parting.isAsSeen(estate)) {
                tally[got]++;
                worst = Math.max(worst, tally[got]);
            }
            parting.grow();
        }
        return worst;
    }

    /** What a text tells and an image keeps: herd, heirs, judge, what was seen. */
    private static final class Estate {
        int camels = FIRST_CAMELS;
        int kind = BY_TOLD;
        int heirs = 0;
        int seen = 0;
        final int[] ups = new int[MOST_HEIRS];
        final int[] downs = new int[MOST_HEIRS];
        final int[] seenHeirs = new int[MOST_SEEN];
        final int[] seenCamels = new int[MOST_SEEN];

        void clear() {
            camels = FIRST_CAMELS;
            kind = BY_TOLD;
            heirs = 0;
            seen = 0;
        }

        void copy(Estate from) {
            camels = from.camels;
            kind = from.kind;
            heirs = from.heirs;
            seen = from.seen;
            for (int i = 0; i < MOST_HEIRS; i++) {
                ups[i] = from.ups[i];
                downs[i] = from.downs[i];
            }
            for (int s = 0; s < MOST_SEEN; s++) {
                seenHeirs[s] = from.seenHeirs[s];
                seenCamels[s] = from.seenCamels[s];
            }
        }

        boolean has(int i) {
            return i >= 0 && i < heirs;
        }

        int add(int up, int down) {
            if (!within(up, 1, MOST_UP) || !within(down, 1, MOST_DOWN)) {
                return BAD;
            }
            if (heirs >= MOST_HEIRS) {
                return FULL;
            }
            ups[heirs] = up;
            downs[heirs] = down;
            heirs++;
            return heirs;
        }

        void remove(int i) {
            if (!has(i)) {
                return;
            }
            for (int j = i; j < heirs - 1; j++) {
                ups[j] = ups[j + 1];
                downs[j] = downs[j + 1];
            }
            heirs--;
        }

        int addSeen(int i, int v) {
            if (seen >= MOST_SEEN) {
                return FULL;
            }
            seenHeirs[seen] = i;
            seenCamels[seen] = v;
            seen++;
            return seen;
        }
    }

    /** What heirs get of a herd by a kind of judge. */
    private static final class Parting {
        // An heir's part is his weight by common, and common is the same for all: whole
        // numbers tell exactly what fractions would.
        long common = 1;
        long all = 0;
        private final long[] weights = new long[MOST_HEIRS];
        private final long[] rests = new long[MOST_HEIRS];
        private final int[] gets = new int[MOST_HEIRS];
        private final int[] gotBefore = new int[MOST_HEIRS];
        private int heirs = 0;
        private int kind = BY_TOLD;
        private int camels = 0;

        void load(Estate from) {
            heirs = from.heirs;
            common = 1;
            all = 0;
            for (int i = 0; i < heirs; i++) {
                common *= from.downs[i];
            }
            for (int i = 0; i < heirs; i++) {
                weights[i] = quotient(common, from.downs[i]) * from.ups[i];
                all += weights[i];
            }
        }

        void part(int byKind, int ofCamels) {
            kind = byKind;
            camels = ofCamels;
            if (kind == BY_TOLD) {
                giveTold();
            } else if (kind == BY_RESTS) {
                giveByRests();
            } else {
                giveByRow();
            }
        }

        /** The same by one camel more. */
        void grow() {
            for (int i = 0; i < heirs; i++) {
                gotBefore[i] = gets[i];
            }
            if (kind == BY_ROW || kind == BY_ODD) {
                camels++;
                giveNext();
            } else {
                part(kind, camels + 1);
            }
        }

        int got(int i) {
            return i >= 0 && i < heirs ? gets[i] : 0;
        }

        int given() {
            int total = 0;
            for (int i = 0; i < heirs; i++) {
                total += gets[i];
            }
            return total;
        }

        boolean isOff(int i) {
            return i >= 0 && i < heirs && Math.abs(gets[i] * all - camels * weights[i]) >= all;
        }

        int firstOff() {
            for (int i = 0; i < heirs; i++) {
                if (isOff(i)) {
                    return i;
                }
            }
            return -1;
        }

        int firstLoser() {
            for (int i = 0; i < heirs; i++) {
                if (gets[i] < gotBefore[i]) {
                    return i;
                }
            }
            return -1;
        }

        boolean givesAs(Parting other) {
            for (int i = 0; i < heirs; i++) {
                if (gets[i] != other.got(i)) {
                    return false;
                }
            }
            return true;
        }

        boolean isAsSeen(Estate by) {
            for (int s = 0; s < by.seen; s++) {
                int i = by.seenHeirs[s];
                if (i >= heirs || got(i) != by.seenCamels[s]) {
                    return false;
                }
            }
            return true;
        }

        private void giveTold() {
            int left = camels;
            for (int i = 0; i < heirs; i++) {
                gets[i] = (int) Math.min(left, quotient(camels * weights[i], common));
                left -= gets[i];
            }
        }

        private void giveByRests() {
            giveQuotasLess(0);
            for (int i = 0; i < heirs; i++) {
                rests[i] = remainder(camels * weights[i], all);
            }
            for (int left = camels - given(); left > 0; left--) {
                giveByGreatestRest();
            }
        }

        // Who has had one more stands behind all others.
        private void giveByGreatestRest() {
            int next = 0;
            for (int i = 1; i < heirs; i++) {
                if (rests[i] > rests[next]) {
                    next = i;
                }
            }
            if (next < heirs) {
                gets[next]++;
                rests[next] = -1;
            }
        }

        // In the end one divisor makes each part what its heir has, but for 0 to 1 above it (row) or
        // a half either way (odd). Five of these come to the herd less 2.5 at least, so each of them
        // is the quota less 2.5 at least, and what he has is the quota less 3 at least: so many
        // need not be given one by one.
        private void giveByRow() {
            giveQuotasLess(3);
            for (int left = camels - given(); left > 0; left--) {
                giveNext();
            }
        }

        private void giveQuotasLess(int fewer) {
            for (int i = 0; i < heirs; i++) {
                gets[i] = (int) Math.max(0, quotient(camels * weights[i], all) - fewer);
            }
        }

        private void giveNext() {
            int next = 0;
            for (int i = 1; i < heirs; i++) {
                if (weights[i] * rowDivisor(next) > weights[next] * rowDivisor(i)) {
                    next = i;
                }
            }
            if (next < heirs) {
                gets[next]++;
            }
        }

        private int rowDivisor(int i) {
            return kind == BY_ODD ? 2 * gets[i] + 1 : gets[i] + 1;
        }
    }

    /** The tape, and the token of it that was read last. */
    private static final class Tape {
        static final int NAME = 0, NUMBER = 1, SEMICOLON = 2, END = 3, WRONG = 4;

        int length = 0;
        int sort = END;
        int start = 0;
        int value = 0;
        private int next = 0;
        private final byte[] bytes = new byte[TAPE_BYTES];

        int append(int c) {
            if (length >= TAPE_BYTES) {
                return FULL;
            }
            bytes[length] = (byte) c;
            length++;
            return length;
        }

        void rewind() {
            next = 0;
        }

        void advance() {
            while (next < length && bytes[next] == ' ') {
                next++;
            }
            start = next;
            if (next >= length) {
                sort = END;
            } else if (isLetter(bytes[next])) {
                takeName();
            } else if (isFigure(bytes[next])) {
                takeNumber();
            } else {
                sort = bytes[next] == ';' ? SEMICOLON : WRONG;
                next++;
            }
        }

        boolean isName(String word) {
            if (sort != NAME || next - start != word.length()) {
                return false;
            }
            for (int i = 0; i < word.length(); i++) {
                if (bytes[start + i] != word.charAt(i)) {
                    return false;
                }
            }
            return true;
        }

        private void takeName() {
            sort = NAME;
            while (next < length && isLetter(bytes[next])) {
                next++;
            }
        }

        private void takeNumber() {
            value = 0;
            while (next < length && isFigure(bytes[next])) {
                value = value * 10 + bytes[next] - '0';
                next++;
            }
            sort = next - start > MOST_FIGURES ? WRONG : NUMBER;
        }

        private static boolean isLetter(int c) {
            return within(c, 'a', 'z');
        }

        private static boolean isFigure(int c) {
            return within(c, '0', '9');
        }
    }

    /** Reads the tape as a text into a draft: token by token, by what is awaited. */
    private static final class Script {
        private static final int A_LINE = 0, AN_UP = 1, A_DOWN = 2, A_HERD = 3, A_SEMICOLON = 4, NOTHING = 5;
        private static final int HEIR_WORD = 4, HERD_WORD = 5;

        final Tape tape = new Tape();
        final Estate draft = new Estate();
        int lines = 0;
        int flaw = 0;
        int place = 0;
        private int awaited = NOTHING;
        private int up = 0;
        private boolean hasHerd = false;
        private boolean hasJudge = false;

        void parse() {
            draft.clear();
            lines = 0;
            flaw = 0;
            place = 0;
            hasHerd = false;
            hasJudge = false;
            awaited = A_LINE;
            tape.rewind();
            // Each token but the end is a byte or more.
            for (int t = 0; t <= TAPE_BYTES && awaited != NOTHING; t++) {
                tape.advance();
                takeToken();
            }
        }

        private void takeToken() {
            if (tape.sort == Tape.WRONG) {
                refuse(NO_TOKEN);
            } else if (awaited == A_SEMICOLON) {
                takeSemicolon();
            } else if (awaited != A_LINE) {
                takeNumber();
            } else if (tape.sort == Tape.END) {
                awaited = NOTHING;
            } else {
                takeWord();
            }
        }

        private void takeWord() {
            int word = wordOfLine();
            if (word == HEIR_WORD) {
                begin(AN_UP, draft.heirs >= MOST_HEIRS, SIXTH);
            } else if (word == HERD_WORD) {
                begin(A_HERD, hasHerd, TWICE);
                hasHerd = true;
            } else if (isKind(word)) {
                begin(A_SEMICOLON, hasJudge, TWICE);
                hasJudge = true;
                draft.kind = word;
            } else {
                refuse(MISPLACED);
            }
        }

        private void begin(int next, boolean isRefused, int by) {
            if (isRefused) {
                refuse(by);
            } else {
                awaited = next;
            }
        }

        /** A judge's kind, HEIR_WORD, HERD_WORD, or -1: it begins no line. */
        private int wordOfLine() {
            if (tape.isName("heir")) {
                return HEIR_WORD;
            }
            if (tape.isName("herd")) {
                return HERD_WORD;
            }
            if (tape.isName("told")) {
                return BY_TOLD;
            }
            if (tape.isName("rests")) {
                return BY_RESTS;
            }
            if (tape.isName("row")) {
                return BY_ROW;
            }
            return tape.isName("odd") ? BY_ODD : -1;
        }

        private void takeNumber() {
            if (tape.sort != Tape.NUMBER) {
                refuse(MISPLACED);
            } else if (!isInBounds(tape.value)) {
                refuse(OUT_OF_BOUNDS);
            } else if (awaited == AN_UP) {
                up = tape.value;
                awaited = A_DOWN;
            } else if (awaited == A_DOWN) {
                draft.add(up, tape.value);
                awaited = A_SEMICOLON;
            } else {
                draft.camels = tape.value;
                awaited = A_SEMICOLON;
            }
        }

        private boolean isInBounds(int number) {
            if (awaited == A_HERD) {
                return isHerd(number);
            }
            return within(number, 1, awaited == AN_UP ? MOST_UP : MOST_DOWN);
        }

        private void takeSemicolon() {
            if (tape.sort != Tape.SEMICOLON) {
                refuse(MISPLACED);
                return;
            }
            lines++;
            awaited = A_LINE;
        }

        private void refuse(int by) {
            flaw = by;
            place = tape.start;
            awaited = NOTHING;
        }
    }

    /** A row of cells of a lane, or nothing. */
    private static final class Sheet {
        int size = -1;
        private int lane = 0;
        private final int[] cells = new int[MOST_CELLS];

        void renew(int ofLane, int n) {
            lane = ofLane;
            size = Math.min(n, MOST_CELLS);
            for (int i = 0; i < MOST_CELLS; i++) {
                cells[i] = 0;
            }
        }

        int flawAt(int i) {
            if (size < 0) {
                return NULL;
            }
            return i >= 0 && i < size ? 0 : INDEX;
        }

        /** What the machine finds when cells i and i + 1 are read as of a lane. */
        int pairFlaw(int asLane, int i) {
            if (size >= 0 && lane != asLane) {
                return CAST;
            }
            int flaw = flawAt(i);
            return flaw != 0 ? flaw : flawAt(i + 1);
        }

        int cell(int i) {
            return flawAt(i) == 0 ? cells[i] : 0;
        }

        void put(int i, int v) {
            if (flawAt(i) != 0) {
                return;
            }
            if (lane == 0) {
                cells[i] = (byte) v;
            } else if (lane == 1) {
                cells[i] = (short) v;
            } else {
                cells[i] = v;
            }
        }
    }

    /** Numbers found on the way up: how many, the least, the greatest. */
    private static final class Finds {
        int number = 0;
        private int least = NONE;
        private int greatest = NONE;

        void clear() {
            number = 0;
            least = NONE;
            greatest = NONE;
        }

        void note(int v) {
            if (number == 0) {
                least = v;
            }
            greatest = v;
            number++;
        }

        int answer(int what) {
            if (what == 0) {
                return number;
            }
            return what == 1 ? least : greatest;
        }
    }

    /** Goes through the wills by rows: parts 1 by a, of which the herd and those lent are whole. */
    private static final class WillSearch {
        int found = 0;
        final int[] row = new int[WILL_HEIRS];
        // No number up to 1008 has more divisors than 840 has: 32.
        private final int[] downs = new int[32];
        private int downsFound = 0;
        private int camels = 0;
        private int heirs = 0;
        private int sought = 0;

        /** Counts the wills, or stops at the sought one (from 0), which is in row then. */
        void run(int herdCamels, int lent, int ofHeirs, int soughtWill) {
            found = 0;
            camels = herdCamels + lent;
            heirs = Math.min(ofHeirs, WILL_HEIRS);
            sought = soughtWill;
            findDowns();
            choose(this, 0, 0, herdCamels);
        }

        private void findDowns() {
            downsFound = 0;
            for (int a = 2; a <= camels; a++) {
                if (remainder(camels, a) == 0 && downsFound < downs.length) {
                    downs[downsFound] = a;
                    downsFound++;
                }
            }
        }

        // Downs grow, so shares fall: what one share for each of the rest can't reach, no later can.
        private static void choose(WillSearch in, int depth, int from, int left) {
            if (depth >= in.heirs) {
                in.found += left == 0 ? 1 : 0;
                return;
            }
            for (int d = from; d < in.downsFound && !in.isFound(); d++) {
                int share = (int) quotient(in.camels, in.downs[d]);
                if (share * (in.heirs - depth) < left) {
                    return;
                }
                if (share <= left) {
                    in.row[depth] = in.downs[d];
                    choose(in, depth + 1, d, left - share);
                }
            }
        }

        private boolean isFound() {
            return sought >= 0 && found > sought;
        }
    }
}

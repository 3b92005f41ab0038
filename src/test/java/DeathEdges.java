/** Boundary cases of promises 28, 29 and 36: mean, luck, drift. */
final class DeathEdges {
    private static final int BAD = CamelParts.BAD, STATE = CamelParts.STATE;
    private static final int LEAST = Integer.MIN_VALUE, MOST = Integer.MAX_VALUE;

    private DeathEdges() {
    }

    static void all() {
        means();
        meansWrong();
        lucks();
        lucksWrong();
        drifting();
        driftingAround();
        driftingOff();
        driftingWrong();
    }

    private static void isMean(CamelParts x, int v, int i, long up, long down) {
        Due.due("mean(" + v + ", " + i + ", 0)", x.mean(v, i, 0), up);
        Due.due("mean(" + v + ", " + i + ", 1)", x.mean(v, i, 1), down);
    }

    private static void isLuck(CamelParts x, int v, int n, long up, long down) {
        Due.due("luck(" + v + ", 0, " + n + ", 0)", x.luck(v, 0, n, 0), up);
        Due.due("luck(" + v + ", 0, " + n + ", 1)", x.luck(v, 0, n, 1), down);
    }

    private static void means() {
        Edge.of(28, "Each camel of HERD dies on the way by v out of ten (0 to 10), by itself: the mean of what an HEIR GETS then: 0, 1.");
        CamelParts all = Due.told("heir 1 1;herd 12;");
        isMean(all, 0, 0, 12, 1);
        isMean(all, 1, 0, 54, 5);
        isMean(all, 9, 0, 6, 5);
        isMean(all, 10, 0, 0, 1);
        all.herd(1);
        isMean(all, 9, 0, 1, 10);
        all.herd(0);
        isMean(all, 0, 0, 0, 1);
        isMean(all, 10, 0, 0, 1);
        // All of 12 is one for the one of 12, so it is that all live: 9 to the 12th by 10 to the 12th.
        CamelParts last = Due.told("heir 1 12;herd 12;");
        isMean(last, 1, 0, 282429536481L, 1000000000000L);
        isMean(last, 9, 0, 1, 1000000000000L);
    }

    private static void meansWrong() {
        Edge.of(28, "BAD; STATE: HERD is above 12.");
        CamelParts x = Due.told("heir 1 1;herd 12;");
        Due.due("12", x.mean(0, 0, 0), 12);
        int[] wrongOdds = {-1, 11, LEAST, MOST};
        int[] wrong = {-1, 2, LEAST, MOST};
        for (int herd = 12; herd <= 13; herd++) {
            x.herd(herd);
            for (int v : wrongOdds) {
                Due.due("mean(" + v + ", 0, 0)", x.mean(v, 0, 0), BAD);
            }
            for (int v : wrong) {
                Due.due("mean(0, " + v + ", 0)", x.mean(0, v, 0), BAD);
                Due.due("mean(0, 0, " + v + ")", x.mean(0, 0, v), BAD);
            }
            Due.due("mean(0, 1, 0)", x.mean(0, 1, 0), BAD);
        }
        Due.due("13: 0", x.mean(0, 0, 0), STATE);
        Due.due("13: 1", x.mean(10, 0, 1), STATE);
        x.herd(999);
        Due.due("999", x.mean(0, 0, 0), STATE);
    }

    private static void lucks() {
        Edge.of(29, "Likewise, that an HEIR GETS n (0 to 999) or more: 0, 1.");
        CamelParts x = Due.told("heir 1 1;herd 12;");
        isLuck(x, 5, 0, 1, 1);
        isLuck(x, 10, 0, 1, 1);
        isLuck(x, 10, 1, 0, 1);
        isLuck(x, 0, 12, 1, 1);
        isLuck(x, 0, 13, 0, 1);
        isLuck(x, 5, 1, 4095, 4096);
        isLuck(x, 5, 12, 1, 4096);
        isLuck(x, 5, 11, 13, 4096);
        isLuck(x, 5, 13, 0, 1);
        isLuck(x, 5, 999, 0, 1);
        isLuck(x, 9, 1, 717570463519L, 1000000000000L);
        isLuck(x, 9, 12, 1, 1000000000000L);
        x.herd(0);
        isLuck(x, 0, 0, 1, 1);
        isLuck(x, 0, 1, 0, 1);
    }

    private static void lucksWrong() {
        Edge.of(29, "BAD; STATE: HERD is above 12.");
        CamelParts x = Due.told("heir 1 1;herd 12;");
        Due.due("12", x.luck(0, 0, 12, 0), 1);
        int[] wrongOdds = {-1, 11, LEAST, MOST};
        int[] wrongNumber = {-1, 1000, LEAST, MOST};
        int[] wrong = {-1, 2, LEAST, MOST};
        for (int herd = 12; herd <= 13; herd++) {
            x.herd(herd);
            for (int v : wrongOdds) {
                Due.due("luck(" + v + ", 0, 0, 0)", x.luck(v, 0, 0, 0), BAD);
            }
            for (int n : wrongNumber) {
                Due.due("luck(0, 0, " + n + ", 0)", x.luck(0, 0, n, 0), BAD);
            }
            for (int v : wrong) {
                Due.due("luck(0, " + v + ", 0, 0)", x.luck(0, v, 0, 0), BAD);
                Due.due("luck(0, 0, 0, " + v + ")", x.luck(0, 0, 0, v), BAD);
            }
            Due.due("luck(0, 1, 0, 0)", x.luck(0, 1, 0, 0), BAD);
        }
        Due.due("13: 0", x.luck(0, 0, 0, 0), STATE);
        Due.due("13: 1", x.luck(10, 0, 999, 1), STATE);
        x.herd(999);
        Due.due("999", x.luck(0, 0, 0, 0), STATE);
    }

    private static void drifting() {
        Edge.of(36, "By itself, n times (1 to 60) by a seed:");
        CamelParts x = Due.told("heir 1 1;heir 1 2;herd 5;");
        x.see(0, 5);
        Due.due("once", x.drift(1, 1, 0), 38);
        Due.due("twice", x.drift(1, 2, 0), 96);
        Due.due("60 times", x.drift(1, 60, 0), 2836);
        Due.due("heirs stay", x.rule(0), 2);
        Due.due("herd stays", x.rule(1), 5);
        Due.due("judge stays", x.rule(2), 0);
        Due.due("seen stays", x.count(0), 1);
        Due.due("from the seed again", x.drift(1, 60, 0), 2836);
    }

    // Sums of herds, reckoned with numbers that do not wrap, modulo 2 to the 32nd.
    private static void driftingAround() {
        Edge.of(36, "the seed becomes seed times 1103515245 and 12345; bits 16 to 30 of it modulo 100 is HERD:");
        CamelParts x = Due.told("heir 1 1;");
        Due.due("0", x.drift(0, 1, 0), 0);
        Due.due("0, twice: below 0 as an int", x.drift(0, 2, 0), 68);
        Due.due("0, 60 times", x.drift(0, 60, 0), 3264);
        Due.due("-1", x.drift(-1, 1, 0), 29);
        Due.due("-1, 60 times", x.drift(-1, 60, 0), 3022);
        Due.due("the greatest", x.drift(MOST, 60, 0), 3022);
        Due.due("the least", x.drift(LEAST, 60, 0), 3264);
    }

    private static void driftingOff() {
        Edge.of(36, "what HEIR 0 GETS by JUDGE of each, summed (what 0), how often an HEIR is OFF QUOTA (1; HERDS).");
        CamelParts two = Due.told("heir 1 2;heir 1 1;");
        Due.due("the first, not the second", two.drift(0, 2, 0), 34);
        CamelParts alike = Due.told("heir 1 1;heir 1 1;");
        // Of 0 nobody is, of 68 both are, which is one herd.
        Due.due("once", alike.drift(0, 1, 1), 0);
        Due.due("twice", alike.drift(0, 2, 1), 1);
        Due.due("thrice", alike.drift(0, 3, 1), 2);
        // Of 68: 17 of 16 2/3 each, and none of 1 1/3.
        Due.due("the last alone is off", Due.told("heir 1 4;heir 1 4;heir 1 4;heir 1 4;heir 1 50;").drift(0, 2, 1), 1);
        alike.judge(1);
        Due.due("by rests nobody is", alike.drift(0, 60, 1), 0);
        Due.due("by rests the half, up", alike.drift(1, 3, 0), 19 + 29 + 7);
    }

    private static void driftingWrong() {
        Edge.of(36, "BAD; STATE: there are no HEIRS.");
        CamelParts x = Due.told("heir 1 1;");
        int[] wrongNumber = {0, 61, -1, LEAST, MOST};
        for (int n : wrongNumber) {
            Due.due("drift(0, " + n + ", 0)", x.drift(0, n, 0), BAD);
        }
        int[] wrong = {-1, 2, LEAST, MOST};
        for (int what : wrong) {
            Due.due("drift(0, 1, " + what + ")", x.drift(0, 1, what), BAD);
        }
        x.dies(0);
        Due.due("no heirs: 0", x.drift(0, 1, 0), STATE);
        Due.due("no heirs: 1", x.drift(0, 60, 1), STATE);
    }
}

/** Boundary cases of promises 6 to 15: what is asked of the parts, and what is changed. */
final class PartEdges {
    private static final int BAD = CamelParts.BAD, FULL = CamelParts.FULL;
    private static final int LEAST = Integer.MIN_VALUE, MOST = Integer.MAX_VALUE;

    private PartEdges() {
    }

    static void all() {
        rules();
        sumsAgainstOne();
        rulesWrong();
        heirs();
        heirsWrong();
        told();
        sums();
        over();
        altering();
        herding();
        judging();
        bearing();
        bearingTooMany();
        dying();
    }

    private static CamelParts five() {
        return Due.told("heir 1 11;heir 2 12;heir 3 13;heir 4 14;heir 5 15;");
    }

    private static void rules() {
        Edge.of(6, "0 HEIRS, 1 HERD, 2 JUDGE,");
        CamelParts x = new CamelParts();
        Due.due("no heirs", x.rule(0), 0);
        Due.due("five heirs", five().rule(0), 5);
        x.herd(0);
        Due.due("no camels", x.rule(1), 0);
        x.herd(999);
        Due.due("most camels", x.rule(1), 999);
        for (int kind = 0; kind < 4; kind++) {
            x.judge(kind);
            Due.due("judge", x.rule(2), kind);
        }
    }

    private static void sumsAgainstOne() {
        Edge.of(6, "3 whether SUM is less than 1, 1, more (0, 1, 2)");
        Due.due("no parts", new CamelParts().rule(3), 0);
        Due.due("1 by 1", Due.told("heir 1 1;").rule(3), 1);
        Due.due("9 by 9", Due.told("heir 9 9;").rule(3), 1);
        Due.due("8 by 9", Due.told("heir 8 9;").rule(3), 0);
        Due.due("9 by 8", Due.told("heir 9 8;").rule(3), 2);
        Due.due("1 less a 1806th", Due.told("heir 1 2;heir 1 3;heir 1 7;heir 1 43;").rule(3), 0);
        Due.due("just 1", Due.told("heir 1 2;heir 1 3;heir 1 7;heir 1 42;").rule(3), 1);
        Due.due("1 and a 1722nd", Due.told("heir 1 2;heir 1 3;heir 1 7;heir 1 41;").rule(3), 2);
        Due.due("five fifths", Due.told("heir 1 5;heir 1 5;heir 1 5;heir 1 5;heir 1 5;").rule(3), 1);
        Due.due("45", Due.told("heir 9 1;heir 9 1;heir 9 1;heir 9 1;heir 9 1;").rule(3), 2);
    }

    private static void rulesWrong() {
        Edge.of(6, "4 what all HEIRS GET. BAD.");
        CamelParts x = five();
        x.herd(0);
        Due.due("all get of none", x.rule(4), 0);
        x.herd(999);
        // 90, 166, 230, 285; 228 are left of the 333 that are told.
        Due.due("all get by told", x.rule(4), 999);
        x.dies(4);
        Due.due("all get by told", x.rule(4), 771);
        x.judge(3);
        Due.due("all get by odd", x.rule(4), 999);
        int[] wrong = {-1, 5, LEAST, MOST};
        for (int what : wrong) {
            Due.due("rule(" + what + ")", x.rule(what), BAD);
        }
    }

    private static void heirs() {
        Edge.of(7, "Of an HEIR: 0 UP, 1 DOWN, 2 what he GETS, 3 whether he is OFF QUOTA (1, 0).");
        CamelParts x = Due.told("heir 1 99;heir 9 1;herd 999;");
        Due.due("up", x.heir(0, 0), 1);
        Due.due("down", x.heir(0, 1), 99);
        Due.due("gets", x.heir(0, 2), 10);
        Due.due("is off: 10 of 1 107/892", x.heir(0, 3), 1);
        Due.due("up", x.heir(1, 0), 9);
        Due.due("down", x.heir(1, 1), 1);
        Due.due("gets", x.heir(1, 2), 989);
        Due.due("is off: 989 of 997 785/892", x.heir(1, 3), 1);
        x.judge(1);
        Due.due("is not off: 1", x.heir(0, 3), 0);
        Due.due("is not off: 998", x.heir(1, 3), 0);
    }

    private static void heirsWrong() {
        Edge.of(7, "BAD.");
        Due.due("no heirs", new CamelParts().heir(0, 0), BAD);
        CamelParts x = five();
        Due.due("the last", x.heir(4, 0), 5);
        int[] wrong = {-1, 5, LEAST, MOST};
        for (int i : wrong) {
            for (int what = 0; what < 4; what++) {
                Due.due("heir(" + i + ", " + what + ")", x.heir(i, what), BAD);
            }
        }
        int[] wrongWhat = {-1, 4, LEAST, MOST};
        for (int what : wrongWhat) {
            Due.due("heir(0, " + what + ")", x.heir(0, what), BAD);
        }
        x.dies(4);
        Due.due("one who is no more", x.heir(4, 0), BAD);
    }

    private static void told() {
        Edge.of(8, "TOLD to an HEIR: 0, 1. BAD.");
        CamelParts x = Due.told("heir 9 1;heir 1 99;herd 999;");
        Due.due("most: 0", x.told(0, 0), 8991);
        Due.due("most: 1", x.told(0, 1), 1);
        Due.due("111 by 11: 0", x.told(1, 0), 111);
        Due.due("111 by 11: 1", x.told(1, 1), 11);
        x.herd(1);
        Due.due("least: 0", x.told(1, 0), 1);
        Due.due("least: 1", x.told(1, 1), 99);
        x.herd(0);
        Due.due("none: 0", x.told(1, 0), 0);
        Due.due("none: 1", x.told(1, 1), 1);
        int[] wrong = {-1, 2, LEAST, MOST};
        for (int v : wrong) {
            Due.due("told(" + v + ", 0)", x.told(v, 0), BAD);
            Due.due("told(0, " + v + ")", x.told(0, v), BAD);
        }
        Due.due("no heirs", new CamelParts().told(0, 0), BAD);
    }

    private static void sums() {
        Edge.of(9, "SUM: 0, 1. BAD.");
        CamelParts none = new CamelParts();
        Due.due("no heirs: 0", none.sum(0), 0);
        Due.due("no heirs: 1", none.sum(1), 1);
        CamelParts most = Due.told("heir 9 1;heir 9 1;heir 9 1;heir 9 1;heir 9 1;");
        Due.due("most: 0", most.sum(0), 45);
        Due.due("most: 1", most.sum(1), 1);
        CamelParts least = Due.told("heir 1 99;");
        Due.due("least: 0", least.sum(0), 1);
        Due.due("least: 1", least.sum(1), 99);
        // No two downs have a divisor: 99 times 98 times 97 times 95 times 89, more than an int holds.
        CamelParts far = Due.told("heir 1 99;heir 1 98;heir 1 97;heir 1 95;heir 1 89;");
        Due.due("far: 0", far.sum(0), 416758301L);
        Due.due("far: 1", far.sum(1), 7956949770L);
        int[] wrong = {-1, 2, LEAST, MOST};
        for (int what : wrong) {
            Due.due("sum(" + what + ")", none.sum(what), BAD);
        }
    }

    private static void over() {
        Edge.of(10, "What an HEIR GETS less TOLD (below 0, if he GETS less): 0, 1. BAD.");
        CamelParts x = Due.told("heir 9 1;heir 9 1;herd 999;");
        Due.due("999 less 8991: 0", x.over(0, 0), -7992);
        Due.due("999 less 8991: 1", x.over(0, 1), 1);
        Due.due("0 less 8991: 0", x.over(1, 0), -8991);
        CamelParts y = Due.told("heir 1 99;herd 999;row;");
        Due.due("999 less 111 by 11: 0", y.over(0, 0), 10878);
        Due.due("999 less 111 by 11: 1", y.over(0, 1), 11);
        y.judge(0);
        Due.due("10 less 111 by 11: 0", y.over(0, 0), -1);
        Due.due("10 less 111 by 11: 1", y.over(0, 1), 11);
        y.herd(99);
        Due.due("1 less 1: 0", y.over(0, 0), 0);
        Due.due("1 less 1: 1", y.over(0, 1), 1);
        int[] wrong = {-1, 2, LEAST, MOST};
        for (int v : wrong) {
            Due.due("over(" + v + ", 0)", x.over(v, 0), BAD);
            Due.due("over(0, " + v + ")", x.over(0, v), BAD);
        }
        Due.due("no heirs", new CamelParts().over(0, 0), BAD);
    }

    private static void altering() {
        Edge.of(11, "UP, DOWN (what 0, 1) of an HEIR becomes v: what it was. BAD.");
        CamelParts x = Due.told("heir 2 3;heir 4 5;");
        Due.due("alter(0, 0, 1)", x.alter(0, 0, 1), 2);
        Due.due("alter(0, 0, 9)", x.alter(0, 0, 9), 1);
        Due.due("alter(0, 0, 9)", x.alter(0, 0, 9), 9);
        Due.due("alter(0, 1, 1)", x.alter(0, 1, 1), 3);
        Due.due("alter(0, 1, 99)", x.alter(0, 1, 99), 1);
        Due.due("alter(1, 1, 9)", x.alter(1, 1, 9), 5);
        int[] wrongUp = {0, 10, -1, LEAST, MOST};
        for (int v : wrongUp) {
            Due.due("alter(0, 0, " + v + ")", x.alter(0, 0, v), BAD);
        }
        int[] wrongDown = {0, 100, -1, LEAST, MOST};
        for (int v : wrongDown) {
            Due.due("alter(0, 1, " + v + ")", x.alter(0, 1, v), BAD);
        }
        int[] wrong = {-1, 2, LEAST, MOST};
        for (int v : wrong) {
            Due.due("alter(" + v + ", 0, 5)", x.alter(v, 0, 5), BAD);
            Due.due("alter(0, " + v + ", 5)", x.alter(0, v, 5), BAD);
        }
        int[] stay = {9, 99, 4, 9};
        for (int n = 0; n < 4; n++) {
            Due.due("heir(" + n / 2 + ", " + n % 2 + ")", x.heir(n / 2, n % 2), stay[n]);
        }
        Due.due("no heirs", new CamelParts().alter(0, 0, 1), BAD);
    }

    private static void herding() {
        Edge.of(12, "HERD becomes v: what it was. BAD.");
        CamelParts x = new CamelParts();
        Due.due("herd(0)", x.herd(0), 17);
        Due.due("herd(999)", x.herd(999), 0);
        int[] wrong = {-1, 1000, LEAST, MOST};
        for (int v : wrong) {
            Due.due("herd(" + v + ")", x.herd(v), BAD);
        }
        Due.due("it stays", x.herd(999), 999);
    }

    private static void judging() {
        Edge.of(13, "JUDGE becomes a KIND: what it was. BAD.");
        CamelParts x = new CamelParts();
        Due.due("judge(3)", x.judge(3), 0);
        int[] wrong = {-1, 4, LEAST, MOST};
        for (int kind : wrong) {
            Due.due("judge(" + kind + ")", x.judge(kind), BAD);
        }
        Due.due("it stays", x.judge(0), 3);
        Due.due("judge(0)", x.judge(0), 0);
    }

    private static void bearing() {
        Edge.of(14, "An HEIR more: how many there are. BAD;");
        CamelParts x = new CamelParts();
        int[] wrongUp = {0, 10, -1, LEAST, MOST};
        for (int up : wrongUp) {
            Due.due("bear(" + up + ", 1)", x.bear(up, 1), BAD);
        }
        int[] wrongDown = {0, 100, -1, LEAST, MOST};
        for (int down : wrongDown) {
            Due.due("bear(1, " + down + ")", x.bear(1, down), BAD);
        }
        Due.due("none came", x.rule(0), 0);
        Due.due("bear(1, 1)", x.bear(1, 1), 1);
        Due.due("bear(9, 99)", x.bear(9, 99), 2);
        Due.due("up", x.heir(1, 0), 9);
        Due.due("down", x.heir(1, 1), 99);
    }

    private static void bearingTooMany() {
        Edge.of(14, "FULL.");
        CamelParts x = new CamelParts();
        for (int n = 1; n <= 5; n++) {
            Due.due("bear", x.bear(n, n), n);
        }
        Due.due("the 6th", x.bear(6, 6), FULL);
        Due.due("the 6th again", x.bear(6, 6), FULL);
        Due.due("five", x.rule(0), 5);
        Due.due("the last", x.heir(4, 0), 5);
        x.dies(0);
        Due.due("one more", x.bear(6, 6), 5);
        Due.due("the last", x.heir(4, 0), 6);
    }

    private static void dying() {
        Edge.of(15, "An HEIR is no more, those behind him keep their order: how many are left. BAD.");
        CamelParts x = five();
        int[] wrong = {-1, 5, LEAST, MOST};
        for (int i : wrong) {
            Due.due("dies(" + i + ")", x.dies(i), BAD);
        }
        Due.due("the last", x.dies(4), 4);
        Due.due("dies(4)", x.dies(4), BAD);
        Due.due("the first", x.dies(0), 3);
        int[] left = {2, 3, 4};
        for (int i = 0; i < 3; i++) {
            Due.due("up", x.heir(i, 0), left[i]);
            Due.due("down", x.heir(i, 1), 10 + left[i]);
        }
        Due.due("the one between", x.dies(1), 2);
        Due.due("ahead of him", x.heir(0, 0), 2);
        Due.due("behind him", x.heir(1, 0), 4);
        Due.due("dies(0)", x.dies(0), 1);
        Due.due("the only one", x.dies(0), 0);
        Due.due("no heirs", x.dies(0), BAD);
    }
}

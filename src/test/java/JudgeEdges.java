/** Boundary cases of promises 20 to 27: by, of, loses, keeps, unlike, best, gains, wants. */
final class JudgeEdges {
    private static final int BAD = CamelParts.BAD, NONE = CamelParts.NONE;
    private static final int LEAST = Integer.MIN_VALUE, MOST = Integer.MAX_VALUE;

    private JudgeEdges() {
    }

    static void all() {
        byKinds();
        ofHerds();
        losing();
        firstLoser();
        losingNever();
        keeping();
        firstOff();
        keepingAlways();
        unlike();
        unlikeWrong();
        unlikeNever();
        best();
        gaining();
        gainingWrong();
        gainingNothing();
        wanting();
        wantingWrong();
        wantingTooMany();
    }

    private static void byKinds() {
        Edge.of(20, "What an HEIR GETS by a KIND of JUDGE. BAD.");
        CamelParts x = Due.told("heir 5 9;heir 3 9;heir 1 9;herd 8;odd;");
        int[] wants = {4, 4, 5, 4, 2, 3, 3, 3, 0, 1, 0, 1};
        for (int n = 0; n < wants.length; n++) {
            Due.due("by(" + n % 4 + ", " + n / 4 + ")", x.by(n % 4, n / 4), wants[n]);
        }
        int[] wrongKind = {-1, 4, LEAST, MOST};
        for (int kind : wrongKind) {
            Due.due("by(" + kind + ", 0)", x.by(kind, 0), BAD);
        }
        int[] wrong = {-1, 3, LEAST, MOST};
        for (int i : wrong) {
            Due.due("by(0, " + i + ")", x.by(0, i), BAD);
        }
        Due.due("no heirs", new CamelParts().by(0, 0), BAD);
        Due.due("the judge stays", x.rule(2), 3);
    }

    private static void ofHerds() {
        Edge.of(21, "What an HEIR GETS of a HERD of v (0 to 999) by JUDGE. BAD.");
        CamelParts x = Due.told("heir 1 2;heir 1 3;heir 1 9;");
        Due.due("of(0, 0)", x.of(0, 0), 0);
        Due.due("of(999, 0)", x.of(999, 0), 499);
        Due.due("of(999, 2)", x.of(999, 2), 111);
        int[] wrongHerd = {-1, 1000, LEAST, MOST};
        for (int v : wrongHerd) {
            Due.due("of(" + v + ", 0)", x.of(v, 0), BAD);
        }
        int[] wrong = {-1, 3, LEAST, MOST};
        for (int i : wrong) {
            Due.due("of(1, " + i + ")", x.of(1, i), BAD);
        }
        Due.due("no heirs", new CamelParts().of(1, 0), BAD);
        Due.due("the herd stays", x.rule(1), 17);
    }

    private static void losing() {
        Edge.of(22, "The least HERD (0 to n, n 0 to 200), of which one camel more makes that an HEIR GETS fewer by JUDGE (what 0),");
        // Of 200: 177 10 13; of 201: 178 11 12, as no more are left.
        CamelParts x = Due.told("heir 8 9;heir 5 91;heir 6 92;");
        Due.due("loses(200, 0)", x.loses(200, 0), 200);
        Due.due("loses(199, 0)", x.loses(199, 0), NONE);
        Due.due("loses(0, 0)", x.loses(0, 0), NONE);
        // By rests these lose at 201 first.
        Due.due("at 201", Due.told("heir 3 77;heir 8 55;heir 3 69;rests;").loses(200, 0), NONE);
        // Of 3: 1 1 1; of 4: 2 2 0. What the herd is does not count.
        CamelParts y = Due.told("heir 6 14;heir 6 14;heir 2 14;rests;herd 999;");
        Due.due("loses(3, 0)", y.loses(3, 0), 3);
        Due.due("loses(2, 0)", y.loses(2, 0), NONE);
        Due.due("loses(200, 0)", y.loses(200, 0), 3);
        Due.due("the herd stays", y.rule(1), 999);
    }

    private static void firstLoser() {
        Edge.of(22, "the first such HEIR (1).");
        // Of 3: 0 0 0 2 1; of 4: 1 1 1 1 0.
        CamelParts x = Due.told("heir 1 4;heir 1 4;heir 1 4;heir 2 3;heir 1 1;");
        Due.due("two lose: when", x.loses(200, 0), 3);
        Due.due("two lose: who", x.loses(200, 1), 3);
        Due.due("the last loses", Due.told("heir 8 9;heir 5 91;heir 6 92;").loses(200, 1), 2);
        Due.due("the first loses", Due.told("heir 2 14;heir 6 14;heir 6 14;rests;").loses(3, 1), 0);
    }

    private static void losingNever() {
        Edge.of(22, "BAD; NONE: none.");
        CamelParts x = Due.told("heir 8 9;heir 5 91;heir 6 92;row;");
        for (int what = 0; what < 2; what++) {
            Due.due("by row", x.loses(200, what), NONE);
            Due.due("without heirs", new CamelParts().loses(200, what), NONE);
        }
        wrongSearch("loses(n, 0)", x.loses(-1, 0), x.loses(201, 0), x.loses(LEAST, 0), x.loses(MOST, 0));
        wrongSearch("loses(0, what)", x.loses(0, -1), x.loses(0, 2), x.loses(0, LEAST), x.loses(0, MOST));
    }

    private static void wrongSearch(String name, int... answers) {
        for (int answer : answers) {
            Due.due(name, answer, BAD);
        }
    }

    private static void keeping() {
        Edge.of(23, "The least HERD (0 to n, n 0 to 200) of which an HEIR is OFF QUOTA by JUDGE (what 0),");
        CamelParts x = Due.told("heir 5 76;heir 2 37;heir 9 64;row;");
        Due.due("keeps(200, 0)", x.keeps(200, 0), 200);
        Due.due("keeps(199, 0)", x.keeps(199, 0), NONE);
        // By odd these are off at 201 first.
        Due.due("at 201", Due.told("heir 3 67;heir 7 30;heir 3 45;heir 2 38;odd;").keeps(200, 0), NONE);
        CamelParts y = Due.told("heir 6 9;heir 5 9;heir 1 9;row;herd 999;");
        Due.due("keeps(9, 0)", y.keeps(9, 0), NONE);
        Due.due("keeps(10, 0)", y.keeps(10, 0), 10);
        CamelParts first = Due.told("heir 1 2;");
        Due.due("of none nobody is", first.keeps(0, 0), NONE);
        Due.due("0 of 1: just 1 below", first.keeps(1, 0), 1);
        Due.due("the herd stays", y.rule(1), 999);
    }

    private static void firstOff() {
        Edge.of(23, "the first such HEIR (1).");
        Due.due("the last is off", Due.told("heir 5 76;heir 2 37;heir 9 64;row;").keeps(200, 1), 2);
        Due.due("both are off", Due.told("heir 1 1;heir 1 1;").keeps(2, 1), 0);
        Due.due("the first is off", Due.told("heir 6 9;heir 5 9;heir 1 9;row;").keeps(10, 1), 0);
    }

    private static void keepingAlways() {
        Edge.of(23, "BAD; NONE: none.");
        CamelParts x = Due.told("heir 6 9;heir 5 9;heir 1 9;rests;");
        for (int what = 0; what < 2; what++) {
            Due.due("by rests", x.keeps(200, what), NONE);
            Due.due("without heirs", new CamelParts().keeps(200, what), NONE);
        }
        wrongSearch("keeps(n, 0)", x.keeps(-1, 0), x.keeps(201, 0), x.keeps(LEAST, 0), x.keeps(MOST, 0));
        wrongSearch("keeps(0, what)", x.keeps(0, -1), x.keeps(0, 2), x.keeps(0, LEAST), x.keeps(0, MOST));
    }

    private static void unlike() {
        Edge.of(24, "The least HERD (0 to 200) of which two KINDS of JUDGE do not give the same.");
        // By told the first has all; by row the other has one when 7 by so many is less than his part.
        CamelParts x = Due.told("heir 7 1;heir 2 57;");
        Due.due("at 200", x.unlike(0, 2), 200);
        Due.due("at 200", x.unlike(2, 0), 200);
        Due.due("at 201", Due.told("heir 7 1;heir 3 86;").unlike(0, 2), NONE);
        Due.due("at 1", Due.told("heir 1 2;herd 0;").unlike(0, 1), 1);
        CamelParts y = Due.told("heir 1 2;heir 1 3;heir 1 9;");
        Due.due("unlike(1, 2)", y.unlike(1, 2), 4);
        Due.due("unlike(2, 3)", y.unlike(2, 3), 4);
        // Rests gives 1 0 2, odd 1 1 1.
        Due.due("the first one's are the same", Due.told("heir 1 5;heir 1 5;heir 3 5;").unlike(1, 3), 3);
        // Told gives 0 0, rests 0 1.
        Due.due("the last one's alone are not", Due.told("heir 1 5;heir 3 5;").unlike(0, 1), 1);
    }

    private static void unlikeWrong() {
        Edge.of(24, "BAD (also alike);");
        CamelParts x = Due.told("heir 1 2;heir 1 3;");
        for (int kind = 0; kind < 4; kind++) {
            Due.due("alike", x.unlike(kind, kind), BAD);
        }
        int[] wrong = {-1, 4, LEAST, MOST};
        for (int kind : wrong) {
            Due.due("unlike(" + kind + ", 0)", x.unlike(kind, 0), BAD);
            Due.due("unlike(0, " + kind + ")", x.unlike(0, kind), BAD);
            Due.due("unlike(" + kind + ", itself)", x.unlike(kind, kind), BAD);
        }
    }

    private static void unlikeNever() {
        Edge.of(24, "NONE: none.");
        CamelParts one = Due.told("heir 1 1;");
        CamelParts none = new CamelParts();
        for (int k = 0; k < 4; k++) {
            for (int l = 0; l < 4; l++) {
                Due.due("one heir of all", one.unlike(k, l), k == l ? BAD : NONE);
                Due.due("without heirs", none.unlike(k, l), k == l ? BAD : NONE);
            }
        }
    }

    private static void best() {
        Edge.of(25, "The KIND of JUDGE by which an HEIR GETS most, of several the first. BAD.");
        CamelParts x = Due.told("heir 5 9;heir 3 9;heir 1 9;herd 8;");
        Due.due("4 4 5 4", x.best(0), 2);
        Due.due("2 3 3 3", x.best(1), 1);
        Due.due("0 1 0 1", x.best(2), 1);
        x.herd(0);
        Due.due("0 0 0 0", x.best(0), 0);
        x.herd(9);
        Due.due("5 5 5 5", x.best(0), 0);
        CamelParts y = Due.told("heir 1 1;heir 1 8;herd 9;");
        Due.due("9 8 8 8", y.best(0), 0);
        CamelParts z = Due.told("heir 1 4;heir 3 4;herd 2;");
        Due.due("0 1 0 1", z.best(0), 1);
        Due.due("1 1 2 1", z.best(1), 2);
        Due.due("0 0 0 1", Due.told("heir 1 5;heir 1 5;heir 3 5;herd 3;").best(1), 3);
        int[] wrong = {-1, 3, LEAST, MOST};
        for (int i : wrong) {
            Due.due("best(" + i + ")", x.best(i), BAD);
        }
        Due.due("no heirs", new CamelParts().best(0), BAD);
    }

    private static void gaining() {
        Edge.of(26, "The HEIR by whose death another one GETS most more by JUDGE, of several the first (what 0), how many more (1).");
        CamelParts several = Due.told("heir 1 3;heir 1 3;heir 1 3;herd 6;row;");
        Due.due("of several the first", several.gains(0, 0), 1);
        Due.due("of several the first", several.gains(1, 0), 0);
        Due.due("of several the first", several.gains(2, 0), 0);
        Due.due("one more", several.gains(2, 1), 1);
        CamelParts last = Due.told("heir 1 9;heir 1 9;heir 7 9;herd 9;rests;");
        Due.due("the last is the most", last.gains(0, 0), 2);
        // A half of 9: five, of which he has one.
        Due.due("four more", last.gains(0, 1), 4);
        Due.due("four less one: the first of two has more", last.gains(1, 1), 3);
        CamelParts told = Due.told("heir 1 1;heir 1 1;herd 999;");
        Due.due("by told: what is left", told.gains(1, 0), 0);
        Due.due("by told: how many", told.gains(1, 1), 999);
        Due.due("nobody died", told.rule(0), 2);
    }

    private static void gainingWrong() {
        Edge.of(26, "BAD;");
        CamelParts x = Due.told("heir 1 2;heir 1 3;rests;");
        int[] wrong = {-1, 2, LEAST, MOST};
        for (int v : wrong) {
            Due.due("gains(" + v + ", 0)", x.gains(v, 0), BAD);
            Due.due("gains(0, " + v + ")", x.gains(0, v), BAD);
        }
        Due.due("no heirs", new CamelParts().gains(0, 0), BAD);
    }

    private static void gainingNothing() {
        Edge.of(26, "NONE: by nobody's more.");
        CamelParts alone = Due.told("heir 1 3;odd;");
        CamelParts first = Due.told("heir 1 2;heir 1 3;");
        CamelParts none = Due.told("heir 1 2;heir 1 3;rests;herd 0;");
        CamelParts all = Due.told("heir 1 1;heir 1 1;rests;herd 1;");
        for (int what = 0; what < 2; what++) {
            Due.due("one alone", alone.gains(0, what), NONE);
            Due.due("by told the first", first.gains(0, what), NONE);
            Due.due("of none", none.gains(0, what), NONE);
            Due.due("who has all", all.gains(0, what), NONE);
            Due.due("who has none of it", all.gains(1, what), what == 0 ? 0 : 1);
        }
    }

    private static void wanting() {
        Edge.of(27, "The least HERD (0 to 999) of which an HEIR GETS n (0 to 999) or more by JUDGE.");
        CamelParts all = Due.told("heir 1 1;row;herd 0;");
        Due.due("none of none", all.wants(0, 0), 0);
        Due.due("one of one", all.wants(0, 1), 1);
        Due.due("all of 999", all.wants(0, 999), 999);
        Due.due("half of 998", Due.told("heir 1 2;").wants(0, 499), 998);
        // Of 3 the last has 1, of 4 none.
        CamelParts x = Due.told("heir 6 14;heir 6 14;heir 2 14;rests;herd 4;");
        Due.due("the least, though more give fewer", x.wants(2, 1), 3);
    }

    private static void wantingWrong() {
        Edge.of(27, "BAD;");
        CamelParts x = Due.told("heir 1 2;heir 1 3;");
        int[] wrong = {-1, 2, LEAST, MOST};
        for (int i : wrong) {
            Due.due("wants(" + i + ", 0)", x.wants(i, 0), BAD);
        }
        int[] wrongNumber = {-1, 1000, LEAST, MOST};
        for (int n : wrongNumber) {
            Due.due("wants(0, " + n + ")", x.wants(0, n), BAD);
        }
        Due.due("no heirs", new CamelParts().wants(0, 0), BAD);
    }

    private static void wantingTooMany() {
        Edge.of(27, "NONE: of none.");
        CamelParts half = Due.told("heir 1 2;");
        Due.due("half of 1000", half.wants(0, 500), NONE);
        Due.due("half of 1998", half.wants(0, 999), NONE);
        CamelParts behind = Due.told("heir 9 1;heir 1 1;");
        Due.due("nothing is ever left", behind.wants(1, 1), NONE);
        Due.due("none is no wish", behind.wants(1, 0), 0);
        Due.due("999 by rests with another", Due.told("heir 9 1;heir 1 99;rests;").wants(0, 999), NONE);
    }
}

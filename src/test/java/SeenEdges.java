/** Boundary cases of promises 30 to 35: see, forget, judges, herds, downs, ask. */
final class SeenEdges {
    private static final int BAD = CamelParts.BAD, FULL = CamelParts.FULL, NONE = CamelParts.NONE;
    private static final int LEAST = Integer.MIN_VALUE, MOST = Integer.MAX_VALUE;

    private SeenEdges() {
    }

    static void all() {
        seeing();
        seeingTooMuch();
        forgetting();
        forgettingWrong();
        whichJudges();
        whichHerds();
        whichHerdsWrong();
        noHerds();
        whichDowns();
        whichDownsWrong();
        noDowns();
        whomToAsk();
        whomToAskOfHerds();
        whomToAskWrong();
    }

    private static void seeing() {
        Edge.of(30, "SEEN: an HEIR GOT v (0 to 999): how many are. BAD;");
        CamelParts x = Due.told("heir 1 1;heir 1 3;herd 999;");
        int[] wrong = {-1, 2, LEAST, MOST};
        for (int i : wrong) {
            Due.due("see(" + i + ", 0)", x.see(i, 0), BAD);
        }
        int[] wrongNumber = {-1, 1000, LEAST, MOST};
        for (int v : wrongNumber) {
            Due.due("see(0, " + v + ")", x.see(0, v), BAD);
        }
        Due.due("nothing is seen", x.count(0), 0);
        Due.due("see(0, 999)", x.see(0, 999), 1);
        Due.due("see(1, 0)", x.see(1, 0), 2);
        Due.due("by told it is so", x.judges() & 1, 1);
        Due.due("no heirs", new CamelParts().see(0, 0), BAD);
    }

    private static void seeingTooMuch() {
        Edge.of(30, "FULL.");
        CamelParts x = Due.told("heir 1 1;");
        for (int n = 1; n <= 6; n++) {
            Due.due("see", x.see(0, 17), n);
        }
        Due.due("the 7th", x.see(0, 16), FULL);
        Due.due("so many", x.count(0), 6);
        Due.due("the 7th is not seen", x.judges(), 15);
        x.forget(5);
        Due.due("the 6th again", x.see(0, 16), 6);
        Due.due("it is seen", x.judges(), 0);
    }

    private static void forgetting() {
        Edge.of(31, "SEEN are the first n alone: how many there were.");
        CamelParts x = Due.told("heir 1 1;");
        Due.due("forget(0) of none", x.forget(0), 0);
        int[] seen = {17, 17, 1, 2, 3, 4};
        for (int v : seen) {
            x.see(0, v);
        }
        Due.due("forget(6) of 6", x.forget(6), 6);
        Due.due("all are seen", x.count(0), 6);
        Due.due("it is not so", x.judges(), 0);
        Due.due("forget(3)", x.forget(3), 6);
        Due.due("it is not so", x.judges(), 0);
        Due.due("forget(2)", x.forget(2), 3);
        Due.due("it is so", x.judges(), 15);
        Due.due("forget(0)", x.forget(0), 2);
        Due.due("forget(0)", x.forget(0), 0);
        x.see(0, 5);
        Due.due("the next is the first", x.herds(1), 5);
    }

    private static void forgettingWrong() {
        Edge.of(31, "BAD.");
        CamelParts x = Due.told("heir 1 1;");
        Due.due("forget(1) of none", x.forget(1), BAD);
        x.see(0, 1);
        x.see(0, 1);
        int[] wrong = {-1, 3, 6, LEAST, MOST};
        for (int n : wrong) {
            Due.due("forget(" + n + ")", x.forget(n), BAD);
        }
        Due.due("they stay", x.count(0), 2);
        for (int n = 3; n <= 6; n++) {
            Due.due("see", x.see(0, 1), n);
        }
        Due.due("forget(7) of 6", x.forget(7), BAD);
    }

    private static void whichJudges() {
        Edge.of(32, "KINDS of JUDGE (bits) by which, all else as it is, all is as SEEN.");
        Due.due("without heirs nothing is seen", new CamelParts().judges(), 15);
        CamelParts x = Due.told("heir 1 2;heir 1 3;heir 1 9;herd 4;");
        // 2 1 0, 2 1 1, 3 1 0, 2 2 0.
        Due.due("nothing is seen", x.judges(), 15);
        int[][] seen = {{0, 2, 11}, {0, 3, 4}, {1, 1, 7}, {1, 2, 8}, {2, 0, 13}, {2, 1, 2}, {2, 2, 0}};
        for (int[] one : seen) {
            x.forget(0);
            x.see(one[0], one[1]);
            Due.due(one[0] + " got " + one[1], x.judges(), one[2]);
        }
        x.forget(0);
        x.see(0, 2);
        x.see(1, 1);
        Due.due("two of three", x.judges(), 3);
        x.see(2, 0);
        Due.due("all three", x.judges(), 1);
        x.see(2, 0);
        Due.due("again", x.judges(), 1);
        x.see(2, 1);
        Due.due("against it", x.judges(), 0);
        Due.due("the judge stays", x.rule(2), 0);
    }

    private static void whichHerds() {
        Edge.of(33, "HERDS (0 to 200) of which, all else as it is, all is as SEEN: how many (what 0), the least (1), the greatest (2).");
        CamelParts none = new CamelParts();
        Due.due("nothing is seen: how many", none.herds(0), 201);
        Due.due("nothing is seen: the least", none.herds(1), 0);
        Due.due("nothing is seen: the greatest", none.herds(2), 200);
        CamelParts x = Due.told("heir 1 2;herd 999;");
        found("0 and 1", x, 0, 2, 0, 1);
        found("200, not 201", x, 100, 1, 200, 200);
        found("198 and 199", x, 99, 2, 198, 199);
        Due.due("the herd stays", x.rule(1), 999);
        // Of 3 the last has one, of 4 to 6 none: herds with a gap.
        CamelParts gap = Due.told("heir 6 14;heir 6 14;heir 2 14;rests;");
        Due.due("of 3", gap.of(3, 2), 1);
        Due.due("of 4", gap.of(4, 2), 0);
        found("a gap", gap, 2, 0, 4, 0, 4);
    }

    private static void found(String name, CamelParts x, int v, int number, int least, int greatest) {
        found(name, x, 0, v, number, least, greatest);
    }

    private static void found(String name, CamelParts x, int i, int v, int number, int least, int greatest) {
        x.forget(0);
        x.see(i, v);
        Due.due(name + ": how many", x.herds(0), number);
        Due.due(name + ": the least", x.herds(1), least);
        Due.due(name + ": the greatest", x.herds(2), greatest);
    }

    private static void whichHerdsWrong() {
        Edge.of(33, "BAD;");
        CamelParts x = new CamelParts();
        int[] wrong = {-1, 3, LEAST, MOST};
        for (int what : wrong) {
            Due.due("herds(" + what + ")", x.herds(what), BAD);
        }
    }

    private static void noHerds() {
        Edge.of(33, "NONE (1, 2): there are none.");
        CamelParts x = Due.told("heir 1 2;herd 202;");
        Due.due("all there are: the greatest", x.herds(2), 200);
        found("of 202 alone", x, 101, 0, NONE, NONE);
        found("more than a half", x, 999, 0, NONE, NONE);
        x.forget(0);
        x.see(0, 1);
        x.see(0, 2);
        Due.due("against one another: how many", x.herds(0), 0);
        Due.due("against one another: the least", x.herds(1), NONE);
    }

    private static void foundDowns(String name, CamelParts x, int v, int number, int least, int greatest) {
        x.forget(0);
        x.see(0, v);
        Due.due(name + ": how many", x.downs(0, 0), number);
        Due.due(name + ": the least", x.downs(0, 1), least);
        Due.due(name + ": the greatest", x.downs(0, 2), greatest);
    }

    private static void whichDowns() {
        Edge.of(34, "DOWN (1 to 99) of an HEIR by which, all else as it is, all is as SEEN: how many (what 0), the least (1), the greatest (2).");
        CamelParts x = Due.told("heir 1 7;heir 1 8;herd 100;");
        Due.due("nothing is seen: how many", x.downs(0, 0), 99);
        Due.due("nothing is seen: the least", x.downs(0, 1), 1);
        Due.due("nothing is seen: the greatest", x.downs(0, 2), 99);
        foundDowns("51 to 99, not 100", x, 1, 49, 51, 99);
        foundDowns("1", x, 100, 1, 1, 1);
        foundDowns("2", x, 50, 1, 2, 2);
        x.herd(99);
        foundDowns("50 to 99", x, 1, 50, 50, 99);
        x.herd(98);
        foundDowns("99", x, 0, 1, 99, 99);
        Due.due("the part stays", x.heir(0, 1), 7);
        // By 1 the second has none, by 2 to 7 so many as are told to him.
        CamelParts second = Due.told("heir 1 7;heir 1 2;herd 10;");
        second.see(1, 0);
        Due.due("what is left: how many", second.downs(0, 0), 1);
        second.forget(0);
        second.see(1, 5);
        Due.due("another's: how many", second.downs(0, 0), 98);
        Due.due("another's: the least", second.downs(0, 1), 2);
    }

    private static void whichDownsWrong() {
        Edge.of(34, "BAD;");
        CamelParts x = Due.told("heir 1 2;heir 1 3;");
        int[] wrong = {-1, 2, LEAST, MOST};
        for (int i : wrong) {
            Due.due("downs(" + i + ", 0)", x.downs(i, 0), BAD);
        }
        int[] wrongWhat = {-1, 3, LEAST, MOST};
        for (int what : wrongWhat) {
            Due.due("downs(0, " + what + ")", x.downs(0, what), BAD);
        }
        Due.due("no heirs", new CamelParts().downs(0, 0), BAD);
    }

    private static void noDowns() {
        Edge.of(34, "NONE (1, 2): there are none.");
        CamelParts x = Due.told("heir 1 2;herd 100;");
        Due.due("all there are: the greatest", x.downs(0, 2), 99);
        foundDowns("less than all, more than a half", x, 51, 0, NONE, NONE);
        foundDowns("more than there are", x, 101, 0, NONE, NONE);
        foundDowns("by more than 99 alone", x, 0, 0, NONE, NONE);
    }

    private static void whomToAsk() {
        Edge.of(35, "The HEIR to be asked how many he GOT, so that of HERDS (0 to 200) fewest are left at the worst, fewer than now, the first (what 0), how many these are (1).");
        CamelParts x = Due.told("heir 1 3;heir 1 2;");
        // Thrice the same number, or twice.
        Due.due("who", x.ask(0), 1);
        Due.due("how many", x.ask(1), 2);
        CamelParts alike = Due.told("heir 1 2;heir 1 2;heir 1 2;");
        Due.due("of several the first: who", alike.ask(0), 0);
        Due.due("of several the first: how many", alike.ask(1), 2);
        CamelParts all = Due.told("heir 1 1;");
        Due.due("one is left: who", all.ask(0), 0);
        Due.due("one is left: how many", all.ask(1), 1);
        all.see(0, 7);
        Due.due("one there is now", all.ask(0), NONE);
        all.see(0, 8);
        Due.due("none there is now", all.ask(0), NONE);
        CamelParts small = Due.told("heir 1 99;");
        Due.due("99 of 201: who", small.ask(0), 0);
        Due.due("99 of 201: how many", small.ask(1), 99);
        small.see(0, 1);
        Due.due("who has told it can't tell more", small.ask(0), NONE);
    }

    private static void whomToAskOfHerds() {
        // 0 and 1 by the first; the second tells them apart.
        CamelParts low = Due.told("heir 1 2;heir 1 1;");
        low.see(0, 0);
        Due.due("0 and 1: who", low.ask(0), 1);
        Due.due("0 and 1: how many", low.ask(1), 1);
        // 198, 199, 200: by halves 99 99 100; by thirds all 66, but 67 of 201.
        CamelParts high = Due.told("heir 1 99;heir 1 2;");
        high.see(0, 2);
        Due.due("198 to 200: who", high.ask(0), 1);
        Due.due("198 to 200: how many", high.ask(1), 2);
        // 158, 159, 160; and 160 of 201.
        CamelParts apart = Due.told("heir 1 99;heir 4 5;");
        apart.see(0, 2);
        Due.due("198 to 200 apart: who", apart.ask(0), 1);
        Due.due("198 to 200 apart: how many", apart.ask(1), 1);
        CamelParts beyond = Due.told("heir 1 99;heir 1 3;");
        beyond.see(0, 2);
        Due.due("201 is no more", beyond.ask(0), NONE);
        Due.due("201 is no more", beyond.ask(1), NONE);
    }

    private static void whomToAskWrong() {
        Edge.of(35, "BAD; NONE: none.");
        CamelParts x = Due.told("heir 1 2;heir 1 2;");
        int[] wrong = {-1, 2, LEAST, MOST};
        for (int what : wrong) {
            Due.due("ask(" + what + ")", x.ask(what), BAD);
        }
        x.see(0, 5);
        for (int what = 0; what < 2; what++) {
            Due.due("both got five of ten and of eleven", x.ask(what), NONE);
            Due.due("without heirs", new CamelParts().ask(what), NONE);
        }
        x.see(1, 6);
        Due.due("there is no herd", x.ask(0), NONE);
    }
}

/** Boundary cases of the document's terms, but for the text's and the sheets'. */
final class TermEdges {
    private static final int BAD = CamelParts.BAD, STATE = CamelParts.STATE, FULL = CamelParts.FULL, NONE = CamelParts.NONE;

    private TermEdges() {
    }

    static void all() {
        constants();
        badBeforeFull();
        badBeforeState();
        badBeforeNone();
        badBeforeFaults();
        lowestTerms();
        zeroAndBelow();
        bounds();
        givingByTold();
        givingByRests();
        givingByRow();
        givingByOdd();
        givingToNobody();
        offQuota();
        seenIsFull();
        seenOfNobody();
        seenOfPlaces();
    }

    private static void constants() {
        Edge.of(Edge.TERMS, "BAD -1 (a number is not as told, there is no such HEIR, IMAGE, SHEET), STATE -2 (as told), FULL -3, NONE -4 (there is none)");
        Due.due("BAD", BAD, -1);
        Due.due("STATE", STATE, -2);
        Due.due("FULL", FULL, -3);
        Due.due("NONE", NONE, -4);
        CamelParts x = Due.told("heir 1 2;");
        Due.due("a number", x.herd(1000), BAD);
        Due.due("no such heir", x.best(1), BAD);
        Due.due("no such image", x.keep(2), BAD);
        Due.due("no such sheet", x.lay(4, 0, 0), BAD);
    }

    private static CamelParts fullOne() {
        CamelParts x = Due.told("heir 1 2;heir 1 3;heir 1 4;heir 1 5;heir 1 6;");
        for (int n = 1; n <= 6; n++) {
            Due.due("see", x.see(0, 8), n);
        }
        for (int n = 1; n <= 160; n++) {
            Due.due("feed", x.feed(' '), n);
        }
        return x;
    }

    private static void badBeforeFull() {
        Edge.of(Edge.TERMS, "the first that fits");
        CamelParts x = fullOne();
        Due.due("feed(32)", x.feed(32), FULL);
        Due.due("feed(-1)", x.feed(-1), BAD);
        Due.due("feed(128)", x.feed(128), BAD);
        Due.due("bear(1, 1)", x.bear(1, 1), FULL);
        Due.due("bear(0, 1)", x.bear(0, 1), BAD);
        Due.due("bear(10, 1)", x.bear(10, 1), BAD);
        Due.due("bear(1, 0)", x.bear(1, 0), BAD);
        Due.due("bear(1, 100)", x.bear(1, 100), BAD);
        Due.due("see(0, 8)", x.see(0, 8), FULL);
        Due.due("see(5, 8)", x.see(5, 8), BAD);
        Due.due("see(-1, 8)", x.see(-1, 8), BAD);
        Due.due("see(0, -1)", x.see(0, -1), BAD);
        Due.due("see(0, 1000)", x.see(0, 1000), BAD);
    }

    private static void badBeforeState() {
        CamelParts x = Due.told("heir 1 2;herd 13;");
        Due.due("mean", x.mean(0, 0, 0), STATE);
        Due.due("mean: v", x.mean(11, 0, 0), BAD);
        Due.due("mean: i", x.mean(0, 1, 0), BAD);
        Due.due("mean: what", x.mean(0, 0, 2), BAD);
        Due.due("luck", x.luck(0, 0, 0, 0), STATE);
        Due.due("luck: v", x.luck(-1, 0, 0, 0), BAD);
        Due.due("luck: i", x.luck(0, -1, 0, 0), BAD);
        Due.due("luck: n", x.luck(0, 0, 1000, 0), BAD);
        Due.due("luck: what", x.luck(0, 0, 0, -1), BAD);
        Due.due("back", x.back(1), STATE);
        Due.due("back: k", x.back(2), BAD);
        CamelParts none = new CamelParts();
        Due.due("drift", none.drift(0, 1, 0), STATE);
        Due.due("drift: n", none.drift(0, 0, 0), BAD);
        Due.due("drift: n", none.drift(0, 61, 0), BAD);
        Due.due("drift: what", none.drift(0, 1, 2), BAD);
        Due.due("mean: there is no heir, above 12", none.mean(0, 0, 0), BAD);
        Due.due("luck: there is no heir, above 12", none.luck(0, 0, 0, 0), BAD);
    }

    private static void badBeforeNone() {
        CamelParts x = Due.told("heir 2 1;");
        x.see(0, 999);
        Due.due("lend(1)", x.lend(1), NONE);
        Due.due("lend(2)", x.lend(2), BAD);
        x.alter(0, 1, 3);
        Due.due("share", x.share(0, 0), NONE);
        Due.due("share: i", x.share(1, 0), BAD);
        Due.due("will", x.will(1, 0, 0, 0), NONE);
        Due.due("will: i", x.will(1, 0, 0, 1), BAD);
        Due.due("will: k", x.will(1, 0, -1, 0), BAD);
        Due.due("loses", x.loses(200, 0), NONE);
        Due.due("loses: what", x.loses(200, 2), BAD);
        Due.due("keeps: what", x.keeps(0, 2), BAD);
        Due.due("keeps", x.keeps(0, 0), NONE);
        Due.due("unlike", x.unlike(1, 2), NONE);
        Due.due("unlike: alike", x.unlike(1, 1), BAD);
        Due.due("gains", x.gains(0, 0), NONE);
        Due.due("gains: what", x.gains(0, 2), BAD);
        Due.due("wants", x.wants(0, 999), NONE);
        Due.due("wants: n", x.wants(0, 1000), BAD);
        Due.due("herds", x.herds(1), NONE);
        Due.due("herds: what", x.herds(3), BAD);
        Due.due("downs", x.downs(0, 1), NONE);
        Due.due("downs: what", x.downs(0, 3), BAD);
        Due.due("ask", x.ask(0), NONE);
        Due.due("ask: what", x.ask(2), BAD);
    }

    private static void badBeforeFaults() {
        CamelParts x = new CamelParts();
        Due.due("sheet", x.sheet(0, 0, -1), -14);
        Due.due("sheet: k", x.sheet(4, 0, -1), BAD);
        Due.due("sheet: lane", x.sheet(0, 3, -1), BAD);
        Due.due("lay", x.lay(0, -1, 0), -11);
        Due.due("lay: k", x.lay(-1, -1, 0), BAD);
        Due.due("read", x.read(0, 0, -1, 1), 0);
        Due.due("read: k", x.read(4, 0, -1, 1), BAD);
        Due.due("read: lane", x.read(0, 3, -1, 1), BAD);
        Due.due("read: n", x.read(0, 0, -1, 21), BAD);
    }

    private static void isFraction(String name, long up, long down, long wantUp, long wantDown) {
        Due.due(name + ": 0", up, wantUp);
        Due.due(name + ": 1", down, wantDown);
    }

    private static void lowestTerms() {
        Edge.of(Edge.TERMS, "Fractions are in lowest terms, the denominator above 0");
        CamelParts x = Due.told("heir 6 9;heir 4 6;herd 12;");
        isFraction("sum", x.sum(0), x.sum(1), 4, 3);
        isFraction("told", x.told(0, 0), x.told(0, 1), 8, 1);
        isFraction("over", x.over(1, 0), x.over(1, 1), -4, 1);
        x.herd(7);
        isFraction("told", x.told(0, 0), x.told(0, 1), 14, 3);
        isFraction("over", x.over(0, 0), x.over(0, 1), -2, 3);
        x.judge(2);
        // Four and three.
        isFraction("over", x.over(1, 0), x.over(1, 1), -5, 3);
        x.herd(2);
        // One and one: of two camels that die by 5 of ten, one is left by 1 of 2, both by 1 of 4.
        isFraction("mean", x.mean(5, 0, 0), x.mean(5, 0, 1), 3, 4);
        isFraction("luck", x.luck(5, 1, 1, 0), x.luck(5, 1, 1, 1), 1, 4);
    }

    private static void zeroAndBelow() {
        Edge.of(Edge.TERMS, "(0 is 0 by 1)");
        CamelParts none = new CamelParts();
        isFraction("sum of none", none.sum(0), none.sum(1), 0, 1);
        CamelParts x = Due.told("heir 7 9;herd 0;");
        isFraction("told", x.told(0, 0), x.told(0, 1), 0, 1);
        isFraction("over", x.over(0, 0), x.over(0, 1), 0, 1);
        isFraction("mean", x.mean(5, 0, 0), x.mean(5, 0, 1), 0, 1);
        isFraction("luck", x.luck(5, 0, 1, 0), x.luck(5, 0, 1, 1), 0, 1);
        x.herd(9);
        isFraction("over", x.over(0, 0), x.over(0, 1), 0, 1);
        isFraction("mean", x.mean(10, 0, 0), x.mean(10, 0, 1), 0, 1);
        isFraction("luck", x.luck(3, 0, 8, 0), x.luck(3, 0, 8, 1), 0, 1);
    }

    private static void bounds() {
        Edge.of(Edge.TERMS, "HERD: so many camels (0 to 999; 17 at first)");
        CamelParts x = new CamelParts();
        Due.due("herd(999)", x.herd(999), 17);
        Due.due("herd(0)", x.herd(0), 999);
        Due.due("herd(1000)", x.herd(1000), BAD);
        Due.due("herd(-1)", x.herd(-1), BAD);
        Edge.of(Edge.TERMS, "HEIRS 0 on (5 at most, by order)");
        for (int n = 1; n <= 5; n++) {
            Due.due("bear", x.bear(n, 10 * n), n);
        }
        Due.due("bear: the 6th", x.bear(1, 1), FULL);
        for (int i = 0; i < 5; i++) {
            Due.due("by order", x.heir(i, 0), i + 1);
        }
        Edge.of(Edge.TERMS, "UP by DOWN (UP 1 to 9, DOWN 1 to 99)");
        x.dies(0);
        Due.due("bear(1, 1)", x.bear(1, 1), 5);
        x.dies(0);
        Due.due("bear(9, 99)", x.bear(9, 99), 5);
        x.dies(0);
        Due.due("bear(0, 1)", x.bear(0, 1), BAD);
        Due.due("bear(10, 1)", x.bear(10, 1), BAD);
        Due.due("bear(1, 0)", x.bear(1, 0), BAD);
        Due.due("bear(1, 100)", x.bear(1, 100), BAD);
        Edge.of(Edge.TERMS, "JUDGE: a KIND (0 told, 1 rests, 2 row, 3 odd; told at first)");
        Due.due("judge(3)", x.judge(3), 0);
        Due.due("judge(0)", x.judge(0), 3);
        Due.due("judge(4)", x.judge(4), BAD);
        Due.due("judge(-1)", x.judge(-1), BAD);
    }

    private static void gives(CamelParts x, int kind, int herd, int... wants) {
        x.herd(herd);
        for (int i = 0; i < wants.length; i++) {
            Due.due("of " + herd + " by(" + kind + ", " + i + ")", x.by(kind, i), wants[i]);
        }
    }

    private static void givingByTold() {
        Edge.of(Edge.TERMS, "told: each TOLD (down), by order, no more than is left of HERD");
        CamelParts x = Due.told("heir 2 3;heir 1 3;heir 1 3;");
        gives(x, 0, 0, 0, 0, 0);
        gives(x, 0, 1, 0, 0, 0);
        gives(x, 0, 2, 1, 0, 0);
        // Just as many as are left, then none.
        gives(x, 0, 3, 2, 1, 0);
        gives(x, 0, 5, 3, 1, 1);
        // One is left, though two are told.
        gives(x, 0, 8, 5, 2, 1);
        gives(x, 0, 999, 666, 333, 0);
        gives(Due.told("heir 9 1;heir 1 99;"), 0, 999, 999, 0);
        gives(Due.told("heir 1 99;heir 9 1;"), 0, 999, 10, 989);
    }

    private static void givingByRests() {
        Edge.of(Edge.TERMS, "then one more each to those whose QUOTA is most above that (of several the first), until all is given");
        CamelParts alike = Due.told("heir 1 5;heir 2 10;heir 3 15;heir 4 20;heir 5 25;");
        gives(alike, 1, 0, 0, 0, 0, 0, 0);
        gives(alike, 1, 1, 1, 0, 0, 0, 0);
        gives(alike, 1, 4, 1, 1, 1, 1, 0);
        gives(alike, 1, 5, 1, 1, 1, 1, 1);
        gives(alike, 1, 999, 200, 200, 200, 200, 199);
        // Quotas of 2: 1/3, 2/3, 1: the second is most above.
        gives(Due.told("heir 1 6;heir 1 3;heir 1 2;"), 1, 2, 0, 1, 1);
        // Of 1: 1/6, 1/3, 1/2. Of 4: 2/3, 4/3, 2. Of 3: 1/2, 1, 3/2: of two the first.
        gives(Due.told("heir 1 6;heir 1 3;heir 1 2;"), 1, 1, 0, 0, 1);
        gives(Due.told("heir 1 6;heir 1 3;heir 1 2;"), 1, 4, 1, 1, 2);
        gives(Due.told("heir 1 6;heir 1 3;heir 1 2;"), 1, 3, 1, 1, 1);
    }

    private static void givingByRow() {
        Edge.of(Edge.TERMS, "the next to him whose PART by 1 more than he has so far is most (of several the first), until all is given");
        CamelParts x = Due.told("heir 3 1;heir 1 1;");
        gives(x, 2, 0, 0, 0);
        gives(x, 2, 2, 2, 0);
        // 3 by 3 and 1 by 1 are alike.
        gives(x, 2, 3, 3, 0);
        gives(x, 2, 4, 3, 1);
        gives(x, 2, 999, 750, 249);
        CamelParts y = Due.told("heir 1 1;heir 3 1;");
        gives(y, 2, 2, 0, 2);
        gives(y, 2, 3, 1, 2);
        gives(y, 2, 999, 250, 749);
        gives(Due.told("heir 1 99;heir 9 1;"), 2, 999, 1, 998);
    }

    private static void givingByOdd() {
        Edge.of(Edge.TERMS, "odd: as row, by 1 more than twice as many as he has so far");
        CamelParts x = Due.told("heir 3 1;heir 1 1;");
        gives(x, 3, 0, 0, 0);
        gives(x, 3, 1, 1, 0);
        // 3 by 3 and 1 by 1 are alike.
        gives(x, 3, 2, 2, 0);
        gives(x, 3, 3, 2, 1);
        gives(x, 3, 999, 749, 250);
        CamelParts y = Due.told("heir 1 1;heir 3 1;");
        gives(y, 3, 1, 0, 1);
        gives(y, 3, 2, 1, 1);
        gives(y, 3, 999, 250, 749);
    }

    private static void givingToNobody() {
        Edge.of(Edge.TERMS, "Without HEIRS nobody GETS any.");
        CamelParts x = new CamelParts();
        x.herd(999);
        for (int kind = 0; kind < 4; kind++) {
            x.judge(kind);
            Due.due("all get", x.rule(4), 0);
            Due.due("nobody gets", x.count(4), 999);
        }
    }

    private static void offQuota() {
        Edge.of(Edge.TERMS, "OFF QUOTA is an HEIR, if what he GETS is 1 or more below his QUOTA, or 1 or more above it.");
        CamelParts x = Due.told("heir 1 2;heir 1 3;heir 1 9;");
        Due.due("8 of 9: just 1 below", x.heir(0, 3), 1);
        x.herd(16);
        Due.due("8 of 8 8/17", x.heir(0, 3), 0);
        CamelParts y = Due.told("heir 1 1;heir 1 1;herd 2;");
        Due.due("2 of 1: just 1 above", y.heir(0, 3), 1);
        Due.due("0 of 1: just 1 below", y.heir(1, 3), 1);
        y.herd(3);
        Due.due("3 of 3/2", y.heir(0, 3), 1);
        y.herd(1);
        Due.due("1 of 1/2", y.heir(0, 3), 0);
        Due.due("0 of 1/2", y.heir(1, 3), 0);
        // The second's quota is so many 892nds.
        CamelParts z = Due.told("heir 9 1;heir 1 99;herd 891;row;");
        Due.due("891 of 890 1/892", z.heir(0, 3), 0);
        Due.due("0 of 891/892", z.heir(1, 3), 0);
        z.judge(0);
        z.herd(892);
        Due.due("892 of 891", z.heir(0, 3), 1);
        Due.due("0 of 1", z.heir(1, 3), 1);
    }

    private static void seenIsFull() {
        Edge.of(Edge.TERMS, "SEEN (6): an HEIR GOT so many");
        CamelParts x = Due.told("heir 1 1;");
        for (int n = 1; n <= 6; n++) {
            Due.due("see", x.see(0, 17), n);
        }
        Due.due("the 7th", x.see(0, 17), FULL);
        Due.due("all is as seen", x.judges(), 15);
    }

    private static void seenOfNobody() {
        Edge.of(Edge.TERMS, "(of an HEIR that there is not any more: it is not so)");
        CamelParts x = Due.told("heir 1 2;heir 1 3;");
        x.see(1, 0);
        x.herd(0);
        Due.due("judges()", x.judges(), 15);
        x.dies(1);
        Due.due("judges()", x.judges(), 0);
        Due.due("herds(0)", x.herds(0), 0);
        Due.due("herds(1)", x.herds(1), NONE);
        Due.due("herds(2)", x.herds(2), NONE);
        Due.due("downs(0, 0)", x.downs(0, 0), 0);
        Due.due("downs(0, 1)", x.downs(0, 1), NONE);
        Due.due("ask(0)", x.ask(0), NONE);
        Due.due("it is still seen", x.count(0), 1);
        x.dies(0);
        Due.due("judges() without heirs", x.judges(), 0);
        Due.due("forget(0)", x.forget(0), 1);
        Due.due("judges() of nothing seen", x.judges(), 15);
    }

    // What is seen names an heir by his place: who comes into it is asked.
    private static void seenOfPlaces() {
        CamelParts x = Due.told("heir 1 2;heir 1 3;heir 1 4;herd 12;");
        x.see(1, 3);
        Due.due("4 is not 3", x.judges() & 1, 0);
        x.dies(0);
        Due.due("the one behind him moves up", x.judges() & 1, 1);
        x.dies(1);
        Due.due("there is no second one", x.judges() & 1, 0);
        x.bear(1, 4);
        Due.due("there is one again", x.judges() & 1, 1);
    }
}

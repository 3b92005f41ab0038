/** Boundary cases of promises 16 to 19, and of what a will is. */
final class LendingEdges {
    private static final int BAD = CamelParts.BAD, NONE = CamelParts.NONE;
    private static final int LEAST = Integer.MIN_VALUE, MOST = Integer.MAX_VALUE;

    private LendingEdges() {
    }

    static void all() {
        lendingForWholes();
        lendingThatComesBack();
        lendingByNone();
        sharing();
        sharingNoWhole();
        counting();
        countingWrong();
        rowOfAWill();
        rowsWrong();
        rowsThatAreNot();
        leastAndMostDowns();
        downsByOrder();
        wholeNumbers();
    }

    private static void lendingForWholes() {
        Edge.of(16, "The least camels to be lent (0 to 999) so that PARTS of HERD and these are all whole (what 0),");
        Due.due("without heirs", new CamelParts().lend(0), 0);
        CamelParts x = Due.told("heir 1 2;heir 1 3;heir 1 9;herd 18;");
        Due.due("18", x.lend(0), 0);
        x.herd(19);
        Due.due("19 to 36", x.lend(0), 17);
        x.herd(0);
        Due.due("none is whole", x.lend(0), 0);
        // 16 times 63 is 1008.
        CamelParts far = Due.told("heir 1 16;heir 1 63;herd 9;");
        Due.due("999 away", far.lend(0), 999);
        far.herd(8);
        Due.due("1000 away", far.lend(0), NONE);
        far.herd(999);
        Due.due("9 away from the most", far.lend(0), 9);
        Due.due("6 by 3 is whole", Due.told("heir 6 3;herd 1;").lend(0), 0);
        Due.due("6 by 4 of 2", Due.told("heir 6 4;herd 1;").lend(0), 1);
    }

    private static void lendingThatComesBack() {
        Edge.of(16, "and so that besides all HEIRS together GET just HERD of it (1).");
        CamelParts x = Due.told("heir 1 28;herd 37;");
        Due.due("37 and 999 is 28 times 37", x.lend(1), 999);
        Due.due("wholes come before", x.lend(0), 19);
        CamelParts far = Due.told("heir 1 41;herd 25;");
        Due.due("25 and 1000 is 41 times 25", far.lend(1), NONE);
        Due.due("wholes come before", far.lend(0), 16);
        CamelParts one = Due.told("heir 1 2;heir 1 2;herd 18;");
        Due.due("parts of 1: none is lent", one.lend(1), 0);
        one.herd(17);
        Due.due("parts of 1, no wholes", one.lend(1), NONE);
        CamelParts more = Due.told("heir 1 2;heir 2 3;herd 6;");
        Due.due("parts above 1", more.lend(1), NONE);
        more.herd(0);
        Due.due("of none: none", more.lend(1), 0);
        CamelParts none = new CamelParts();
        Due.due("without heirs", none.lend(1), NONE);
        none.herd(0);
        Due.due("none without heirs", none.lend(1), 0);
    }

    private static void lendingByNone() {
        Edge.of(16, "BAD; NONE: by none.");
        CamelParts x = Due.told("heir 1 99;heir 1 98;herd 1;");
        Due.due("lend(0)", x.lend(0), NONE);
        Due.due("lend(1)", x.lend(1), NONE);
        int[] wrong = {-1, 2, LEAST, MOST};
        for (int what : wrong) {
            Due.due("lend(" + what + ")", x.lend(what), BAD);
        }
    }

    private static void sharing() {
        Edge.of(17, "What an HEIR has of HERD and n lent (0 to 999) by his PART, if that is whole. BAD;");
        CamelParts x = Due.told("heir 9 1;heir 1 2;herd 999;");
        Due.due("most", x.share(0, 999), 17982);
        Due.due("of none lent", x.share(0, 0), 8991);
        Due.due("half of 1998", x.share(1, 999), 999);
        x.herd(0);
        Due.due("of none", x.share(1, 0), 0);
        int[] wrong = {-1, 2, LEAST, MOST};
        for (int i : wrong) {
            Due.due("share(" + i + ", 0)", x.share(i, 0), BAD);
        }
        int[] wrongLent = {-1, 1000, LEAST, MOST};
        for (int n : wrongLent) {
            Due.due("share(0, " + n + ")", x.share(0, n), BAD);
        }
        Due.due("no heirs", new CamelParts().share(0, 0), BAD);
    }

    private static void sharingNoWhole() {
        Edge.of(17, "NONE: it is not whole.");
        CamelParts x = Due.told("heir 2 99;heir 9 6;herd 98;");
        Due.due("2 by 99 of 98", x.share(0, 0), NONE);
        Due.due("2 by 99 of 99", x.share(0, 1), 2);
        Due.due("2 by 99 of 100", x.share(0, 2), NONE);
        Due.due("9 by 6 of 98", x.share(1, 0), 147);
        Due.due("9 by 6 of 99", x.share(1, 1), NONE);
    }

    private static void counting() {
        Edge.of(18, "WILLS of n HEIRS (1 to 4) by l lent (0 to 9): how many.");
        CamelParts x = Due.told("herd 9;");
        Due.due("wills(1, 9): a half of 18", x.wills(1, 9), 1);
        Due.due("wills(1, 0)", x.wills(1, 0), 0);
        Due.due("wills(4, 9): 6 1 1 1, 3 3 2 1, 3 2 2 2", x.wills(4, 9), 3);
        Due.due("wills(4, 0): 9 has too few", x.wills(4, 0), 0);
        x.herd(0);
        for (int n = 1; n <= 4; n++) {
            Due.due("wills of none", x.wills(n, 0), 0);
            Due.due("wills of none", x.wills(n, 9), 0);
        }
        x.herd(1);
        Due.due("wills(1, 0) of 1", x.wills(1, 0), 0);
        Due.due("wills(1, 1) of 1: a half of 2", x.wills(1, 1), 1);
        x.herd(840);
        Due.due("wills(4, 0) of 840, which has most divisors", x.wills(4, 0), 13);
        x.herd(999);
        Due.due("wills(3, 0) of 999: thirds", x.wills(3, 0), 1);
        Due.due("wills(4, 9) of 999", x.wills(4, 9), 0);
        CamelParts heirs = Due.told("heir 1 2;heir 1 3;herd 6;odd;");
        Due.due("heirs that there are do not count", heirs.wills(3, 0), 2);
    }

    private static void countingWrong() {
        Edge.of(18, "BAD.");
        CamelParts x = new CamelParts();
        int[] wrong = {0, 5, -1, LEAST, MOST};
        for (int n : wrong) {
            Due.due("wills(" + n + ", 1)", x.wills(n, 1), BAD);
        }
        int[] wrongLent = {-1, 10, LEAST, MOST};
        for (int l : wrongLent) {
            Due.due("wills(3, " + l + ")", x.wills(3, l), BAD);
        }
    }

    private static void isWill(CamelParts x, int lent, int k, int... downs) {
        for (int i = 0; i < downs.length; i++) {
            Due.due("will(" + downs.length + ", " + lent + ", " + k + ", " + i + ")", x.will(downs.length, lent, k, i), downs[i]);
        }
    }

    private static void rowOfAWill() {
        Edge.of(19, "Of the k-th (from 0) of these, by rows, the i-th a.");
        CamelParts x = Due.told("herd 8;");
        isWill(x, 4, 0, 3, 6, 12, 12);
        isWill(x, 4, 1, 4, 4, 12, 12);
        isWill(x, 4, 2, 4, 6, 6, 12);
        isWill(x, 4, 3, 6, 6, 6, 6);
        Due.due("one beyond", x.will(4, 4, 4, 0), NONE);
        x.herd(840);
        isWill(x, 0, 0, 2, 3, 7, 42);
        isWill(x, 0, 12, 4, 4, 4, 4);
        Due.due("one beyond", x.will(4, 0, 13, 3), NONE);
        x.herd(9);
        isWill(x, 9, 0, 2);
    }

    private static void rowsWrong() {
        Edge.of(19, "BAD (also i);");
        CamelParts x = Due.told("herd 6;");
        Due.due("the last i", x.will(3, 0, 0, 2), 6);
        int[] wrong = {3, -1, LEAST, MOST};
        for (int i : wrong) {
            Due.due("will(3, 0, 0, " + i + ")", x.will(3, 0, 0, i), BAD);
            Due.due("will(3, 0, 9, " + i + ")", x.will(3, 0, 9, i), BAD);
        }
        Due.due("one heir has one a", x.will(1, 6, 0, 1), BAD);
        int[] wrongHeirs = {0, 5, -1, LEAST, MOST};
        for (int n : wrongHeirs) {
            Due.due("will(" + n + ", 0, 0, 0)", x.will(n, 0, 0, 0), BAD);
        }
        int[] wrongLent = {-1, 10, LEAST, MOST};
        for (int l : wrongLent) {
            Due.due("will(3, " + l + ", 0, 0)", x.will(3, l, 0, 0), BAD);
        }
        Due.due("will(3, 0, -1, 0)", x.will(3, 0, -1, 0), BAD);
        Due.due("will(3, 0, min, 0)", x.will(3, 0, LEAST, 0), BAD);
    }

    private static void rowsThatAreNot() {
        Edge.of(19, "NONE: there are not so many.");
        CamelParts x = Due.told("herd 6;");
        Due.due("the last", x.will(3, 0, 1, 0), 3);
        Due.due("one beyond", x.will(3, 0, 2, 0), NONE);
        Due.due("far beyond", x.will(3, 0, MOST, 0), NONE);
        x.herd(0);
        Due.due("of none", x.will(1, 9, 0, 0), NONE);
    }

    private static void leastAndMostDowns() {
        Edge.of(Edge.TERMS, "each a (2 at least, HERD and l at most)");
        CamelParts x = Due.told("herd 6;");
        // 1 by 1 would be all of it.
        Due.due("1 is no a", x.wills(1, 0), 0);
        Due.due("2 is one", x.will(1, 6, 0, 0), 2);
        Due.due("6 of 6 is one", x.will(3, 0, 0, 2), 6);
        x.herd(2);
        Due.due("2 of 2 is one", x.will(2, 0, 0, 1), 2);
        x.herd(1);
        Due.due("2 of 1 is none", x.wills(1, 0), 0);
    }

    private static void downsByOrder() {
        Edge.of(Edge.TERMS, "no less than the one before");
        CamelParts x = Due.told("herd 5;");
        // A half and a third of 6, and not the other way round again.
        Due.due("wills(2, 1)", x.wills(2, 1), 1);
        isWill(x, 1, 0, 2, 3);
        x.herd(6);
        Due.due("alike ones", x.will(3, 0, 1, 1), 3);
    }

    private static void wholeNumbers() {
        Edge.of(Edge.TERMS, "of each of which HERD and l is a whole number, and which come together to just HERD.");
        // 1/2 and 1/4 and 1/8 and 1/8 come to all of 12, but an eighth of 12 is not whole.
        CamelParts x = Due.told("herd 12;");
        // 6 4 1 1, 6 3 2 1, 6 2 2 2, 4 4 3 1, 4 4 2 2, 4 3 3 2, 3 3 3 3
        Due.due("wills(4, 0)", x.wills(4, 0), 7);
        int[][] shares = {{6, 4, 1, 1}, {6, 3, 2, 1}, {6, 2, 2, 2}, {4, 4, 3, 1}, {4, 4, 2, 2}, {4, 3, 3, 2}, {3, 3, 3, 3}};
        for (int k = 0; k < shares.length; k++) {
            isWill(x, 0, k, 12 / shares[k][0], 12 / shares[k][1], 12 / shares[k][2], 12 / shares[k][3]);
        }
        x.herd(11);
        // Of 12: 6 4 1 come to 11, 6 3 2 too, 4 4 3 too.
        Due.due("wills(3, 1)", x.wills(3, 1), 3);
        x.herd(10);
        Due.due("wills(2, 2): 6 4", x.wills(2, 2), 1);
    }
}

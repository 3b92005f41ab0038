/** Boundary cases of promises 37 to 43, and of sheets and their faults. */
final class SheetEdges {
    private static final int BAD = CamelParts.BAD, STATE = CamelParts.STATE, NONE = CamelParts.NONE;
    private static final int LEAST = Integer.MIN_VALUE, MOST = Integer.MAX_VALUE;

    private SheetEdges() {
    }

    static void all() {
        keeping();
        goingBack();
        goingBackToWhatWasSeen();
        goingBackLeavesTheRest();
        goingBackToNone();
        sheetsAtFirst();
        faults();
        newSheets();
        sheetsTooLong();
        laying();
        layingWrong();
        reading();
        readingNone();
        readingTorn();
        readingWrong();
        readingRefused();
        readingFull();
        tornOnes();
        counts();
        countsOfNothing();
    }

    private static void keeping() {
        Edge.of(37, "IMAGE k (0, 1) is HERD, HEIRS, JUDGE, what was SEEN: whether there was one (1, 0). BAD.");
        CamelParts x = new CamelParts();
        Due.due("keep(0)", x.keep(0), 0);
        Due.due("keep(0) again", x.keep(0), 1);
        Due.due("one", x.count(1), 1);
        Due.due("keep(1)", x.keep(1), 0);
        Due.due("two", x.count(1), 2);
        Due.due("keep(1) again", x.keep(1), 1);
        int[] wrong = {-1, 2, LEAST, MOST};
        for (int k : wrong) {
            Due.due("keep(" + k + ")", x.keep(k), BAD);
        }
        x.text();
        Due.due("a text takes them", x.keep(0), 0);
        Due.due("a text takes them", x.keep(1), 0);
    }

    private static void goingBack() {
        Edge.of(38, "All is as IMAGE k: HERD.");
        CamelParts x = Due.told("heir 1 2;heir 3 4;herd 0;odd;");
        x.see(1, 0);
        x.keep(0);
        for (int n = 1; n <= 3; n++) {
            x.bear(n, 90 + n);
        }
        x.alter(0, 0, 9);
        x.herd(999);
        x.judge(1);
        x.see(4, 999);
        x.keep(1);
        x.sheet(0, 0, 5);
        Due.due("of none", x.back(0), 0);
        isSmall(x);
        Due.due("of most", x.back(1), 999);
        Due.due("heirs", x.rule(0), 5);
        Due.due("up", x.heir(0, 0), 9);
        Due.due("the last", x.heir(4, 1), 93);
        Due.due("judge", x.rule(2), 1);
        Due.due("seen", x.count(0), 2);
        Due.due("of none again", x.back(0), 0);
        x.dies(0);
        x.forget(0);
        Due.due("an image is not what it was kept from", x.back(0), 0);
        isSmall(x);
        Due.due("sheets stay", x.count(3), 5);
        Due.due("both stay", x.count(1), 2);
    }

    // Each of the six comes back, whatever was seen in its place since.
    private static void goingBackToWhatWasSeen() {
        CamelParts x = Due.told("heir 1 1;heir 1 1;herd 5;");
        for (int n = 0; n < 6; n++) {
            x.forget(0);
            for (int s = 0; s < 6; s++) {
                x.see(s == n ? 1 : 0, s == n ? 0 : 5);
            }
            Due.due("so it is", x.judges(), 1);
            x.keep(0);
            x.forget(n);
            x.see(0, 0);
            Due.due("so it is not", x.judges(), 0);
            x.back(0);
            Due.due("so it is again", x.judges(), 1);
            Due.due("all are seen", x.count(0), 6);
            x.forget(n);
            x.see(1, 5);
            x.keep(1);
            x.back(0);
            Due.due("so it is again", x.judges(), 1);
            x.back(1);
            Due.due("so it is not again", x.judges(), 0);
        }
    }

    // An image is herd, heirs, judge and what was seen, and nothing besides.
    private static void goingBackLeavesTheRest() {
        CamelParts x = Due.told("heir 1 2;");
        x.keep(0);
        Due.fed(x, "heir;");
        Due.due("a fault", x.text(), -14);
        x.sheet(1, 2, 3);
        x.read(1, 0, 0, 1);
        Due.fed(x, "herd 7;");
        Due.due("back(0)", x.back(0), 17);
        Due.due("fault()", x.fault(), 2);
        Due.due("torn()", x.torn(), 3);
        Due.due("bytes", x.count(2), 7);
        Due.due("the sheet's last cell", x.lay(1, 2, 0), 1);
        Due.due("the tape is told", x.text(), 1);
        Due.due("herd", x.rule(1), 7);
    }

    private static void isSmall(CamelParts x) {
        Due.due("heirs", x.rule(0), 2);
        Due.due("up", x.heir(0, 0), 1);
        Due.due("down", x.heir(1, 1), 4);
        Due.due("herd", x.rule(1), 0);
        Due.due("judge", x.rule(2), 3);
        Due.due("seen", x.count(0), 1);
        Due.due("as seen", x.judges(), 15);
    }

    private static void goingBackToNone() {
        Edge.of(38, "BAD; STATE: there is none.");
        CamelParts x = Due.told("heir 1 2;");
        Due.due("back(0)", x.back(0), STATE);
        Due.due("back(1)", x.back(1), STATE);
        x.keep(0);
        Due.due("the other", x.back(1), STATE);
        int[] wrong = {-1, 2, LEAST, MOST};
        for (int k : wrong) {
            Due.due("back(" + k + ")", x.back(k), BAD);
        }
        Due.due("heirs stay", x.rule(0), 1);
        x.text();
        Due.due("a text takes it", x.back(0), STATE);
    }

    private static void sheetsAtFirst() {
        Edge.of(Edge.TERMS, "SHEETS 0 to 3 are rows of BYTES (lane 0), SHORTS (1), INTS (2) with 0 to 40 CELLS, or nothing (at first).");
        CamelParts x = new CamelParts();
        for (int k = 0; k < 4; k++) {
            Due.due("nothing at first", x.lay(k, 0, 0), -11);
            Due.due("no cells", x.sheet(k, k % 3, 0), 1);
            Due.due("no cell", x.lay(k, 0, 0), -12);
            Due.due("40 cells", x.sheet(k, k % 3, 40), 1);
            Due.due("the last", x.lay(k, 39, 0), 1);
            Due.due("no 41st", x.lay(k, 40, 0), -12);
        }
        Due.due("no sheet 4", x.sheet(4, 0, 0), BAD);
        Due.due("no lane 3", x.sheet(0, 3, 0), BAD);
    }

    private static void faults() {
        Edge.of(Edge.TERMS, "1 NULL (nothing), 2 INDEX, 3 CAST (another lane), 4 SIZE (below 0).");
        CamelParts x = new CamelParts();
        Due.due("SIZE", x.sheet(0, 0, -1), -14);
        isTorn("NULL, in whatever lane", x, 0, 0, 0, 1);
        isTorn("NULL, in whatever lane", x, 0, 2, -1, 1);
        x.sheet(0, 1, 2);
        for (int lane = 0; lane < 3; lane++) {
            isTorn("CAST or INDEX", x, 0, lane, 2, lane == 1 ? 2 : 3);
        }
        x.sheet(0, 1, 0);
        isTorn("no cells: INDEX", x, 0, 1, 0, 2);
        isTorn("no cells, another lane: CAST", x, 0, 2, 0, 3);
    }

    private static void isTorn(String name, CamelParts x, int k, int lane, int f, int fault) {
        int heirs = x.rule(0);
        Due.due(name + ": read(" + k + ", " + lane + ", " + f + ", 1)", x.read(k, lane, f, 1), 0);
        Due.due(name + ": torn()", x.torn(), fault);
        Due.due(name + ": heirs", x.rule(0), heirs);
    }

    private static void newSheets() {
        Edge.of(39, "A SHEET is a new row of CELLS 0: 1.");
        CamelParts x = new CamelParts();
        Due.due("sheet(0, 0, 0)", x.sheet(0, 0, 0), 1);
        Due.due("cells", x.count(3), 0);
        Due.due("sheet(0, 2, 40)", x.sheet(0, 2, 40), 1);
        Due.due("cells", x.count(3), 40);
        for (int i = 0; i < 40; i++) {
            x.lay(0, i, 1);
        }
        Due.due("the last two", x.read(0, 2, 38, 1), 1);
        Due.due("sheet(0, 2, 2)", x.sheet(0, 2, 2), 1);
        Due.due("both are 0", x.read(0, 2, 0, 1), -20);
        x.lay(0, 0, 1);
        Due.due("the second is 0", x.read(0, 2, 0, 1), -20);
        Due.due("sheet(0, 2, 2)", x.sheet(0, 2, 2), 1);
        x.lay(0, 1, 1);
        Due.due("the first is 0", x.read(0, 2, 0, 1), -20);
        Due.due("sheet(0, 2, 40)", x.sheet(0, 2, 40), 1);
        Due.due("the last are 0", x.read(0, 2, 38, 1), -20);
        x.lay(0, 38, 1);
        Due.due("the last is 0", x.read(0, 2, 38, 1), -20);
    }

    private static void sheetsTooLong() {
        Edge.of(39, "BAD: also n above 40; -10 - 4.");
        CamelParts x = new CamelParts();
        x.sheet(0, 1, 3);
        int[] wrong = {-1, 4, LEAST, MOST};
        for (int k : wrong) {
            Due.due("sheet(" + k + ", 0, 1)", x.sheet(k, 0, 1), BAD);
        }
        int[] wrongLane = {-1, 3, LEAST, MOST};
        for (int lane : wrongLane) {
            Due.due("sheet(0, " + lane + ", 1)", x.sheet(0, lane, 1), BAD);
            Due.due("sheet(0, " + lane + ", -1)", x.sheet(0, lane, -1), BAD);
        }
        Due.due("sheet(0, 0, 41)", x.sheet(0, 0, 41), BAD);
        Due.due("sheet(0, 0, max)", x.sheet(0, 0, MOST), BAD);
        Due.due("sheet(0, 0, -1)", x.sheet(0, 0, -1), -14);
        Due.due("sheet(0, 0, min)", x.sheet(0, 0, LEAST), -14);
        Due.due("it stays", x.count(3), 3);
        isTorn("its lane stays", x, 0, 0, 0, 3);
    }

    private static void isCell(int lane, int v, int up) {
        CamelParts x = new CamelParts();
        x.sheet(3, lane, 2);
        x.lay(3, 1, 99);
        Due.due("lay(3, 0, " + v + ")", x.lay(3, 0, v), 1);
        boolean comes = up >= 1 && up <= 9;
        Due.due("read of " + v + " in lane " + lane, x.read(3, lane, 0, 1), comes ? 1 : -20);
        Due.due("up of " + v + " in lane " + lane, x.heir(0, 0), comes ? up : BAD);
    }

    private static void laying() {
        Edge.of(40, "CELL i of a SHEET becomes v (its lowest bits): 1.");
        for (int lane = 0; lane < 3; lane++) {
            isCell(lane, 1, 1);
            isCell(lane, 9, 9);
            isCell(lane, 0, 0);
            isCell(lane, 10, 10);
            isCell(lane, -1, -1);
        }
        int[] bytes = {256 + 7, -256 + 7, 65536 + 7, LEAST + 7, MOST - 255 + 7};
        for (int v : bytes) {
            isCell(0, v, 7);
        }
        int[] shorts = {65536 + 7, -65536 + 7, LEAST + 7, MOST - 65535 + 7};
        for (int v : shorts) {
            isCell(1, v, 7);
        }
        isCell(0, 128 + 7, -121);
        isCell(1, 256 + 7, 263);
        isCell(1, 32768 + 7, -32761);
        isCell(2, 65536 + 7, 65543);
        isCell(2, LEAST + 7, LEAST + 7);
        isCell(2, MOST, MOST);
    }

    private static void layingWrong() {
        Edge.of(40, "BAD: k; -10 less the FAULT: NULL, INDEX.");
        CamelParts x = new CamelParts();
        int[] wrong = {-1, 4, LEAST, MOST};
        for (int k : wrong) {
            Due.due("lay(" + k + ", 0, 0)", x.lay(k, 0, 0), BAD);
        }
        int[] outside = {-1, 3, LEAST, MOST};
        for (int i : outside) {
            Due.due("NULL: lay(1, " + i + ", 0)", x.lay(1, i, 0), -11);
        }
        x.sheet(1, 2, 3);
        for (int i : outside) {
            Due.due("INDEX: lay(1, " + i + ", 0)", x.lay(1, i, 0), -12);
        }
        Due.due("the first", x.lay(1, 0, 0), 1);
        Due.due("the last", x.lay(1, 2, 0), 1);
        Due.due("another is nothing", x.lay(2, 0, 0), -11);
    }

    private static CamelParts withCells(int lane, int number, int... cells) {
        CamelParts x = new CamelParts();
        x.sheet(2, lane, number);
        for (int i = 0; i < number; i++) {
            x.lay(2, i, i < cells.length ? cells[i] : 1);
        }
        return x;
    }

    private static void reading() {
        Edge.of(41, "n (0 to 20) times UP, DOWN are read of a SHEET taken as of a lane, two CELLS each from CELL f on, one behind another as by bear(): how many came.");
        for (int lane = 0; lane < 3; lane++) {
            CamelParts x = withCells(lane, 11, 9, 1, 2, 3, 4, 5, 6, 7, 8, 9, 99);
            Due.due("none", x.read(2, lane, 0, 0), 0);
            Due.due("nobody came", x.rule(0), 0);
            Due.due("all five from cell 1 on", x.read(2, lane, 1, 5), 5);
            Due.due("torn()", x.torn(), 0);
            for (int i = 0; i < 5; i++) {
                Due.due("up", x.heir(i, 0), 2 * i + 1);
                Due.due("down", x.heir(i, 1), i < 4 ? 2 * i + 2 : 99);
            }
        }
        CamelParts most = withCells(0, 40);
        most.bear(7, 7);
        Due.due("the last two cells", most.read(2, 0, 38, 1), 1);
        Due.due("behind the one there was", most.heir(1, 0), 1);
        Due.due("20 of a sheet that has two", withCells(1, 4).read(2, 1, 0, 20), 2);
        Due.due("none of nothing", new CamelParts().read(2, 0, 0, 0), 0);
    }

    // None are read, so no cell is asked for: the machine finds nothing, whatever the sheet is.
    private static void readingNone() {
        CamelParts x = withCells(0, 2, 0, 0);
        int[][] reads = {{3, 0, 0}, {2, 1, 0}, {2, 2, 0}, {2, 0, 2}, {2, 0, -1}, {2, 0, MOST}, {2, 0, LEAST}, {2, 0, 0}};
        for (int[] one : reads) {
            x.read(3, 0, 0, 1);
            Due.due("torn()", x.torn(), 1);
            Due.due("read(" + one[0] + ", " + one[1] + ", " + one[2] + ", 0)", x.read(one[0], one[1], one[2], 0), 0);
            Due.due("torn() of none", x.torn(), 0);
        }
        Due.due("nobody came", x.rule(0), 0);
    }

    private static void readingTorn() {
        Edge.of(41, "What the machine refuses: those that were whole ahead came (its FAULT is asked by torn()).");
        CamelParts x = withCells(2, 5, 1, 2, 3, 4, 5);
        Due.due("two are whole", x.read(2, 2, 0, 3), 2);
        Due.due("torn()", x.torn(), 2);
        Due.due("two came", x.rule(0), 2);
        Due.due("the last is there", x.heir(1, 1), 4);
        Due.due("two from 1 on are whole", x.read(2, 2, 1, 3), 2);
        Due.due("torn()", x.torn(), 2);
        isTorn("the last cell alone", x, 2, 2, 4, 2);
        int[] outside = {5, 6, -1, -2, LEAST, LEAST + 1, MOST, MOST - 1};
        for (int f : outside) {
            isTorn("outside", x, 2, 2, f, 2);
        }
        isTorn("another lane", x, 2, 0, 0, 3);
        isTorn("nothing", x, 3, 0, 0, 1);
        // Ahead of 5 there is one cell, of which 0 is no up; but the machine finds it first.
        isTorn("an up that bear() would refuse, not whole", withCells(0, 1, 0), 2, 0, 0, 2);
        CamelParts five = withCells(0, 11);
        Due.due("five are whole, the 6th is not", five.read(2, 0, 0, 20), 5);
        Due.due("torn()", five.torn(), 2);
        isTorn("full, but not whole", five, 2, 0, 10, 2);
    }

    private static void readingWrong() {
        Edge.of(41, "BAD: k, lane, n;");
        CamelParts x = withCells(0, 4);
        int[] wrong = {-1, 4, LEAST, MOST};
        for (int k : wrong) {
            Due.due("read(" + k + ", 0, 0, 1)", x.read(k, 0, 0, 1), BAD);
        }
        int[] wrongLane = {-1, 3, LEAST, MOST};
        for (int lane : wrongLane) {
            Due.due("read(2, " + lane + ", 0, 1)", x.read(2, lane, 0, 1), BAD);
            Due.due("read(3, " + lane + ", 0, 0)", x.read(3, lane, 0, 0), BAD);
        }
        int[] wrongNumber = {-1, 21, LEAST, MOST};
        for (int n : wrongNumber) {
            Due.due("read(2, 0, 0, " + n + ")", x.read(2, 0, 0, n), BAD);
        }
        Due.due("nobody came", x.rule(0), 0);
    }

    private static void readingRefused() {
        Edge.of(41, "-20 less i: the i-th, whole, is refused by bear() (in whichever way): then none came; the first met.");
        int[][] wrongPairs = {{0, 1}, {10, 1}, {1, 0}, {1, 100}, {-1, 1}, {1, -1}};
        for (int[] pair : wrongPairs) {
            CamelParts x = withCells(2, 8, 1, 2, 3, 4, pair[0], pair[1], 0, 0);
            x.bear(8, 8);
            Due.due("the first", x.read(2, 2, 4, 2), -20);
            Due.due("the second", x.read(2, 2, 2, 3), -21);
            Due.due("the third", x.read(2, 2, 0, 20), -22);
            Due.due("none came", x.rule(0), 1);
            Due.due("the one there was", x.heir(0, 1), 8);
            Due.due("those ahead of it", x.read(2, 2, 0, 2), 2);
        }
        CamelParts x = withCells(1, 3, 1, 1, 0);
        Due.due("what is met first", x.read(2, 1, 0, 3), 1);
        Due.due("torn()", x.torn(), 2);
        CamelParts y = withCells(1, 5, 1, 1, 0, 1, 1);
        Due.due("what is met first", y.read(2, 1, 0, 3), -21);
        Due.due("torn()", y.torn(), 0);
        Due.due("none came", y.rule(0), 0);
    }

    private static void readingFull() {
        CamelParts x = withCells(0, 40);
        Due.due("the 6th of 20", x.read(2, 0, 0, 20), -25);
        Due.due("none came", x.rule(0), 0);
        Due.due("five", x.read(2, 0, 0, 5), 5);
        Due.due("the first", x.read(2, 0, 0, 1), -20);
        x.dies(4);
        Due.due("the second", x.read(2, 0, 30, 2), -21);
        Due.due("none came", x.rule(0), 4);
        Due.due("one", x.read(2, 0, 30, 1), 1);
    }

    private static void tornOnes() {
        Edge.of(42, "The FAULT of the latest read() that came to an end; 0.");
        CamelParts x = withCells(0, 2, 1, 1);
        Due.due("before any", x.torn(), 0);
        int[][] reads = {{3, 0, 1}, {2, 0, 0}, {2, 1, 3}, {2, 0, 0}};
        for (int[] one : reads) {
            x.read(one[0], one[1], 0, 1);
            Due.due("read(" + one[0] + ", " + one[1] + ", 0, 1): torn()", x.torn(), one[2]);
            Due.due("again", x.torn(), one[2]);
        }
        x.read(2, 0, 2, 1);
        Due.due("INDEX", x.torn(), 2);
        x.read(4, 0, 0, 1);
        x.read(2, 3, 0, 1);
        x.read(2, 0, 0, 21);
        Due.due("BAD ones are no end", x.torn(), 2);
        x.lay(2, 0, 0);
        Due.due("refused", x.read(2, 0, 0, 1), -20);
        Due.due("refused ones are no end", x.torn(), 2);
        x.lay(3, 0, 0);
        x.sheet(2, 0, -1);
        Due.due("other faults are not read()'s", x.torn(), 2);
        Due.due("a text", x.text(), 0);
        Due.due("a text is no read()", x.torn(), 2);
        x.read(2, 0, 0, 0);
        Due.due("none were read", x.torn(), 0);
    }

    private static void counts() {
        Edge.of(43, "How many: 0 SEEN, 1 IMAGES, 2 bytes on THE TAPE, 3 CELLS of SHEET 0 (NONE: nothing),");
        CamelParts x = Due.told("heir 1 1;");
        for (int what = 0; what < 3; what++) {
            Due.due("at first", x.count(what), 0);
        }
        for (int n = 1; n <= 6; n++) {
            x.see(0, 0);
            Due.due("seen", x.count(0), n);
        }
        x.keep(1);
        Due.due("image 1 alone", x.count(1), 1);
        x.keep(0);
        Due.due("both", x.count(1), 2);
        for (int n = 1; n <= 160; n++) {
            x.feed(32);
        }
        Due.due("bytes", x.count(2), 160);
        x.sheet(1, 0, 9);
        Due.due("another sheet", x.count(3), NONE);
        Due.due("no row of so many", x.sheet(0, 0, -1), -14);
        Due.due("still nothing", x.count(3), NONE);
        x.sheet(0, 0, 0);
        Due.due("no cells", x.count(3), 0);
        x.sheet(0, 2, 40);
        Due.due("most cells", x.count(3), 40);
    }

    private static void countsOfNothing() {
        Edge.of(43, "4 what of HERD nobody GETS. BAD.");
        CamelParts x = new CamelParts();
        x.herd(999);
        Due.due("without heirs", x.count(4), 999);
        x.bear(1, 99);
        Due.due("999 less 10", x.count(4), 989);
        x.judge(2);
        Due.due("by row all is given", x.count(4), 0);
        x.judge(0);
        x.herd(0);
        Due.due("of none", x.count(4), 0);
        int[] wrong = {-1, 5, LEAST, MOST};
        for (int what : wrong) {
            Due.due("count(" + what + ")", x.count(what), BAD);
        }
    }
}

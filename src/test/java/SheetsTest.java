/** Promises 37 to 43: keep, back, sheet, lay, read, torn, count. */
public final class SheetsTest {
    private static final int BAD = CamelParts.BAD;
    private static final int NONE = CamelParts.NONE;

    public static void main(String[] args) {
        images();
        newSheets();
        laying();
        lowestBits();
        reading();
        readingTorn();
        readingRefused();
        counts();
        Due.finish();
    }

    private static void images() {
        CamelParts x = Due.told("heir 1 2;heir 3 4;herd 30;odd;");
        x.see(1, 18);
        Due.due("back(0)", x.back(0), CamelParts.STATE);
        Due.due("keep(0)", x.keep(0), 0);
        Due.due("count(1)", x.count(1), 1);
        x.herd(7);
        x.judge(1);
        x.alter(1, 1, 5);
        x.bear(1, 1);
        x.forget(0);
        Due.due("keep(1)", x.keep(1), 0);
        Due.due("count(1)", x.count(1), 2);
        Due.due("back(0)", x.back(0), 30);
        Due.due("heirs", x.rule(0), 2);
        Due.due("herd", x.rule(1), 30);
        Due.due("judge", x.rule(2), 3);
        Due.due("down", x.heir(1, 1), 4);
        Due.due("seen", x.count(0), 1);
        Due.due("as seen", x.judges() & 8, 8);
        x.herd(8);
        x.alter(0, 0, 9);
        Due.due("back(0) again", x.back(0), 30);
        Due.due("an image is no mirror", x.heir(0, 0), 1);
        Due.due("back(1)", x.back(1), 7);
        Due.due("heirs", x.rule(0), 3);
        Due.due("down", x.heir(1, 1), 5);
        Due.due("seen", x.count(0), 0);
        Due.due("keep(0)", x.keep(0), 1);
        Due.due("back(0)", x.back(0), 7);
        for (int k = -1; k <= 2; k += 3) {
            Due.due("keep", x.keep(k), BAD);
            Due.due("back", x.back(k), BAD);
        }
    }

    private static void newSheets() {
        CamelParts x = new CamelParts();
        Due.due("sheet(-1, 0, 1)", x.sheet(-1, 0, 1), BAD);
        Due.due("sheet(4, 0, 1)", x.sheet(4, 0, 1), BAD);
        Due.due("sheet(0, -1, 1)", x.sheet(0, -1, 1), BAD);
        Due.due("sheet(0, 3, 1)", x.sheet(0, 3, 1), BAD);
        Due.due("sheet(0, 0, 41)", x.sheet(0, 0, 41), BAD);
        Due.due("sheet(0, 0, -1)", x.sheet(0, 0, -1), -14);
        Due.due("sheet(0, 0, min)", x.sheet(0, 0, Integer.MIN_VALUE), -14);
        Due.due("BAD first", x.sheet(0, 3, -1), BAD);
        Due.due("still nothing", x.count(3), NONE);
        Due.due("sheet(0, 0, 40)", x.sheet(0, 0, 40), 1);
        Due.due("count(3)", x.count(3), 40);
        Due.due("lay(0, 39, 3)", x.lay(0, 39, 3), 1);
        Due.due("sheet(0, 0, -5)", x.sheet(0, 0, -5), -14);
        Due.due("count(3) stays", x.count(3), 40);
        Due.due("sheet(0, 0, 0)", x.sheet(0, 0, 0), 1);
        Due.due("count(3)", x.count(3), 0);
        x.sheet(3, 1, 2);
        x.lay(3, 0, 1);
        x.lay(3, 1, 1);
        Due.due("a cell that was laid", x.read(3, 1, 0, 1), 1);
        x.sheet(3, 1, 2);
        Due.due("cells are 0 anew", x.read(3, 1, 0, 1), -20);
        x.lay(3, 0, 1);
        Due.due("the second too", x.read(3, 1, 0, 1), -20);
        x.sheet(3, 1, 2);
        x.lay(3, 1, 1);
        Due.due("the first too", x.read(3, 1, 0, 1), -20);
    }

    private static void laying() {
        CamelParts x = new CamelParts();
        Due.due("lay(-1, 0, 0)", x.lay(-1, 0, 0), BAD);
        Due.due("lay(4, 0, 0)", x.lay(4, 0, 0), BAD);
        Due.due("lay(0, -1, 0)", x.lay(0, -1, 0), -11);
        x.sheet(0, 2, 3);
        Due.due("lay(0, 0, 0)", x.lay(0, 0, 0), 1);
        Due.due("lay(0, 2, 0)", x.lay(0, 2, 0), 1);
        Due.due("lay(0, 3, 0)", x.lay(0, 3, 0), -12);
        Due.due("lay(0, -1, 0)", x.lay(0, -1, 0), -12);
        x.sheet(0, 2, 0);
        Due.due("lay(0, 0, 0)", x.lay(0, 0, 0), -12);
    }

    private static void lowestBits() {
        int[] ups = {256 + 7, 65536 + 7, 7};
        int[] wrongs = {128, 32768, 65536 + 7};
        for (int lane = 0; lane < 3; lane++) {
            CamelParts x = new CamelParts();
            x.sheet(1, lane, 2);
            x.lay(1, 0, ups[lane]);
            x.lay(1, 1, 99);
            Due.due("read as its lowest bits", x.read(1, lane, 0, 1), 1);
            Due.due("up", x.heir(0, 0), 7);
            Due.due("down", x.heir(0, 1), 99);
            x.lay(1, 0, wrongs[lane]);
            Due.due("no up", x.read(1, lane, 0, 1), -20);
        }
    }

    private static CamelParts withSheet(int lane, int... cells) {
        CamelParts x = new CamelParts();
        x.sheet(2, lane, cells.length);
        for (int i = 0; i < cells.length; i++) {
            x.lay(2, i, cells[i]);
        }
        return x;
    }

    private static void reading() {
        CamelParts x = withSheet(1, 0, 1, 2, 3, 4, 5, 6);
        for (int k = -1; k <= 4; k += 5) {
            Due.due("read: k", x.read(k, 1, 0, 1), BAD);
        }
        for (int lane = -1; lane <= 3; lane += 4) {
            Due.due("read: lane", x.read(2, lane, 0, 1), BAD);
        }
        for (int n = -1; n <= 21; n += 22) {
            Due.due("read: n", x.read(2, 1, 0, n), BAD);
        }
        Due.due("read none", x.read(2, 1, 99, 0), 0);
        Due.due("torn()", x.torn(), 0);
        Due.due("read(2, 1, 1, 3)", x.read(2, 1, 1, 3), 3);
        Due.due("torn()", x.torn(), 0);
        for (int i = 0; i < 3; i++) {
            Due.due("up", x.heir(i, 0), 2 * i + 1);
            Due.due("down", x.heir(i, 1), 2 * i + 2);
        }
        Due.due("behind those there are", x.read(2, 1, 1, 2), 2);
        Due.due("rule(0)", x.rule(0), 5);
    }

    private static void readingTorn() {
        CamelParts x = withSheet(0, 1, 2, 3, 4, 5);
        Due.due("two are whole", x.read(2, 0, 0, 20), 2);
        Due.due("torn()", x.torn(), 2);
        Due.due("rule(0)", x.rule(0), 2);
        Due.due("read(2, 0, 3, 1)", x.read(2, 0, 3, 1), 1);
        Due.due("torn()", x.torn(), 0);
        int[] outside = {4, 5, -1, -2, Integer.MIN_VALUE, Integer.MAX_VALUE, Integer.MAX_VALUE - 1};
        for (int f : outside) {
            Due.due("read from " + f, x.read(2, 0, f, 3), 0);
            Due.due("torn()", x.torn(), 2);
        }
        Due.due("another lane", x.read(2, 1, 99, 1), 0);
        Due.due("torn()", x.torn(), 3);
        Due.due("nothing", x.read(3, 0, -1, 1), 0);
        Due.due("torn()", x.torn(), 1);
        Due.due("BAD is no end", x.read(2, 0, 0, 21), BAD);
        Due.due("torn() stays", x.torn(), 1);
        Due.due("none are read", x.read(2, 0, 0, 0), 0);
        Due.due("torn()", x.torn(), 0);
    }

    private static void readingRefused() {
        CamelParts x = withSheet(2, 1, 2, 3, 4, 0, 4, 9);
        x.bear(9, 9);
        x.read(3, 0, 0, 1);
        Due.due("the third is refused", x.read(2, 2, 0, 4), -22);
        Due.due("none came", x.rule(0), 1);
        Due.due("torn() stays", x.torn(), 1);
        Due.due("the fault is met first", x.read(2, 2, 6, 4), 0);
        Due.due("torn()", x.torn(), 2);
        Due.due("two come", x.read(2, 2, 0, 2), 2);
        Due.due("two more come", x.read(2, 2, 0, 2), 2);
        Due.due("full", x.read(2, 2, 0, 1), -20);
        x.dies(0);
        Due.due("full at the second", x.read(2, 2, 0, 2), -21);
        Due.due("none came", x.rule(0), 4);
        Due.due("down is refused too", withSheet(2, 1, 100).read(2, 2, 0, 1), -20);
    }

    private static void counts() {
        CamelParts x = Due.told("heir 1 2;heir 1 3;heir 1 9;");
        Due.due("count(-1)", x.count(-1), BAD);
        Due.due("count(5)", x.count(5), BAD);
        Due.due("count(4)", x.count(4), 3);
        x.judge(2);
        Due.due("count(4) by row", x.count(4), 0);
        Due.due("count(3)", x.count(3), NONE);
        x.sheet(1, 0, 5);
        Due.due("count(3) is of sheet 0", x.count(3), NONE);
        x.feed('a');
        Due.due("count(2)", x.count(2), 1);
        x.keep(1);
        Due.due("count(1)", x.count(1), 1);
        x.see(0, 0);
        Due.due("count(0)", x.count(0), 1);
    }
}

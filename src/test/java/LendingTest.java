/** Promises 16 to 19: lend, share, wills, will. */
public final class LendingTest {
    private static final int BAD = CamelParts.BAD;
    private static final int NONE = CamelParts.NONE;

    public static void main(String[] args) {
        lending();
        lendingAtTheEdges();
        sharing();
        counting();
        rows();
        Due.finish();
    }

    private static void lending() {
        CamelParts x = Due.told("heir 1 2;heir 1 3;heir 1 9;");
        Due.due("lend(-1)", x.lend(-1), BAD);
        Due.due("lend(2)", x.lend(2), BAD);
        Due.due("lend(0)", x.lend(0), 1);
        Due.due("lend(1)", x.lend(1), 1);
        x.herd(18);
        Due.due("lend(0) of 18", x.lend(0), 0);
        Due.due("lend(1) of 18", x.lend(1), NONE);
        x.herd(34);
        Due.due("lend(1) of 34", x.lend(1), 2);
        x.herd(19);
        Due.due("lend(0) of 19", x.lend(0), 17);
        // All parts are more than all: by none, though a judge would give just 9.
        CamelParts y = Due.told("heir 6 9;heir 5 9;heir 1 9;herd 9;");
        for (int kind = 0; kind < 4; kind++) {
            y.judge(kind);
            Due.due("lend(0) above 1", y.lend(0), 0);
            Due.due("lend(1) above 1", y.lend(1), NONE);
        }
    }

    private static void lendingAtTheEdges() {
        CamelParts x = new CamelParts();
        Due.due("lend(0) without heirs", x.lend(0), 0);
        Due.due("lend(1) without heirs", x.lend(1), NONE);
        x.herd(0);
        Due.due("lend(1) of none without heirs", x.lend(1), 0);
        x.herd(1);
        x.bear(1, 99);
        x.bear(1, 98);
        Due.due("lend(0): 9702 is too far", x.lend(0), NONE);
        CamelParts y = Due.told("heir 1 40;heir 1 25;heir 1 2;heir 1 1;herd 1;");
        Due.due("lend(0): to 200", y.lend(0), 199);
        y.herd(201);
        Due.due("lend(0): to 400", y.lend(0), 199);
        // 27 times 37 is 999: from 1 it is 998 away, from 0 none.
        CamelParts nines = Due.told("heir 1 27;heir 1 37;herd 1;");
        Due.due("lend(0): 998", nines.lend(0), 998);
        nines.herd(0);
        Due.due("lend(0): 0", nines.lend(0), 0);
        // 16 times 63 is 1008: from 9 it is 999 away, from 8 too far.
        CamelParts limit = Due.told("heir 1 16;heir 1 63;herd 9;");
        Due.due("lend(0): 999", limit.lend(0), 999);
        limit.herd(8);
        Due.due("lend(0): 1000", limit.lend(0), NONE);
        CamelParts whole = Due.told("heir 9 1;herd 999;");
        Due.due("lend(0) of wholes", whole.lend(0), 0);
        Due.due("lend(1) of wholes", whole.lend(1), NONE);
    }

    private static void sharing() {
        CamelParts x = Due.told("heir 1 2;heir 1 3;heir 1 9;");
        Due.due("share(0, 0)", x.share(0, 0), NONE);
        Due.due("share(0, 1)", x.share(0, 1), 9);
        Due.due("share(1, 1)", x.share(1, 1), 6);
        Due.due("share(2, 1)", x.share(2, 1), 2);
        Due.due("share(2, 2)", x.share(2, 2), NONE);
        Due.due("share(0, 999)", x.share(0, 999), 508);
        Due.due("share(0, 1000)", x.share(0, 1000), BAD);
        Due.due("share(0, -1)", x.share(0, -1), BAD);
        Due.due("share(3, 1)", x.share(3, 1), BAD);
        Due.due("share(-1, 1)", x.share(-1, 1), BAD);
        x.herd(999);
        x.alter(0, 0, 9);
        x.alter(0, 1, 1);
        Due.due("share: most of all", x.share(0, 999), 17982);
    }

    private static void counting() {
        CamelParts x = new CamelParts();
        Due.due("wills(0, 1)", x.wills(0, 1), BAD);
        Due.due("wills(5, 1)", x.wills(5, 1), BAD);
        Due.due("wills(1, -1)", x.wills(1, -1), BAD);
        Due.due("wills(1, 10)", x.wills(1, 10), BAD);
        Due.due("wills(3, 1)", x.wills(3, 1), 1);
        Due.due("wills(1, 1)", x.wills(1, 1), 0);
        Due.due("wills(1, 0): no a of 1", x.wills(1, 0), 0);
        x.herd(0);
        for (int l = 0; l <= 9; l++) {
            Due.due("wills of none", x.wills(1, l), 0);
        }
        x.herd(6);
        Due.due("wills(1, 6): a half of 12", x.wills(1, 6), 1);
        Due.due("wills(2, 0): two halves", x.wills(2, 0), 1);
        Due.due("wills(3, 0): 2 3 6, 3 3 3", x.wills(3, 0), 2);
        x.herd(12);
        // Of 12: 6 4 2, 6 3 3, 4 4 4.
        Due.due("wills(3, 0) of 12", x.wills(3, 0), 3);
        x.herd(9);
        Due.due("wills(2, 3)", x.wills(2, 3), 1);
        Due.due("wills(3, 3): 6 2 1, 4 4 1, 4 3 2, 3 3 3", x.wills(3, 3), 4);
    }

    private static void rows() {
        CamelParts x = Due.told("herd 9;");
        int[][] rows = {{2, 6, 12}, {3, 3, 12}, {3, 4, 6}, {4, 4, 4}};
        for (int k = 0; k < rows.length; k++) {
            for (int i = 0; i < 3; i++) {
                Due.due("will(3, 3, " + k + ", " + i + ")", x.will(3, 3, k, i), rows[k][i]);
            }
        }
        x.herd(6);
        Due.due("will of one heir", x.will(1, 6, 0, 0), 2);
        Due.due("will without lending", x.will(2, 0, 0, 1), 2);
        x.herd(9);
        Due.due("will: not so many", x.will(3, 3, 4, 0), NONE);
        Due.due("will: not so many", x.will(3, 3, Integer.MAX_VALUE, 0), NONE);
        Due.due("will: no such a", x.will(3, 3, 0, 3), BAD);
        Due.due("will: no such a", x.will(3, 3, 0, -1), BAD);
        Due.due("will: BAD before NONE", x.will(3, 3, 99, 3), BAD);
        Due.due("will: k", x.will(3, 3, -1, 0), BAD);
        Due.due("will: n", x.will(0, 3, 0, 0), BAD);
        Due.due("will: n", x.will(5, 3, 0, 0), BAD);
        Due.due("will: l", x.will(3, -1, 0, 0), BAD);
        Due.due("will: l", x.will(3, 10, 0, 0), BAD);
    }
}

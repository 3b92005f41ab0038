/** Promises 20 to 27: by, of, loses, keeps, unlike, best, gains, wants. */
public final class JudgesTest {
    private static final int BAD = CamelParts.BAD;
    private static final int NONE = CamelParts.NONE;

    public static void main(String[] args) {
        kinds();
        ties();
        others();
        losing();
        keeping();
        unlikeOnes();
        bestOnes();
        gaining();
        wanting();
        Due.finish();
    }

    private static void gives(CamelParts x, int kind, int... wants) {
        for (int i = 0; i < wants.length; i++) {
            Due.due("by(" + kind + ", " + i + ")", x.by(kind, i), wants[i]);
        }
    }

    private static void kinds() {
        CamelParts x = Due.told("heir 5 9;heir 3 9;heir 1 9;herd 8;");
        gives(x, 0, 4, 2, 0);
        // Quotas 4 4/9, 2 6/9, 8/9.
        gives(x, 1, 4, 3, 1);
        // 5, 2.5, 3, 1.67, 1.5, 1.25, 1, 1(of several the first).
        gives(x, 2, 5, 3, 0);
        // 5, 3, 1.67, 1, 1, 1, .71, .6.
        gives(x, 3, 4, 3, 1);
        Due.due("by(-1, 0)", x.by(-1, 0), BAD);
        Due.due("by(4, 0)", x.by(4, 0), BAD);
        Due.due("by(0, 3)", x.by(0, 3), BAD);
        Due.due("by(0, -1)", x.by(0, -1), BAD);
        Due.due("by leaves the judge", x.rule(2), 0);
    }

    private static void ties() {
        CamelParts x = Due.told("heir 2 4;heir 1 2;heir 5 10;herd 4;");
        gives(x, 0, 2, 2, 0);
        gives(x, 1, 2, 1, 1);
        gives(x, 2, 2, 1, 1);
        gives(x, 3, 2, 1, 1);
        x.herd(5);
        gives(x, 1, 2, 2, 1);
        gives(x, 2, 2, 2, 1);
        gives(x, 3, 2, 2, 1);
        x.herd(999);
        gives(x, 2, 333, 333, 333);
    }

    private static void others() {
        CamelParts x = Due.told("heir 1 2;heir 1 3;heir 1 9;herd 5;");
        Due.due("of(18, 0)", x.of(18, 0), 9);
        Due.due("of(0, 0)", x.of(0, 0), 0);
        Due.due("of(999, 1)", x.of(999, 1), 333);
        Due.due("of(1000, 0)", x.of(1000, 0), BAD);
        Due.due("of(-1, 0)", x.of(-1, 0), BAD);
        Due.due("of(1, 3)", x.of(1, 3), BAD);
        Due.due("of(1, -1)", x.of(1, -1), BAD);
        x.judge(1);
        Due.due("of(17, 2) by rests", x.of(17, 2), 2);
        Due.due("of leaves the herd", x.rule(1), 5);
    }

    private static void losing() {
        // Of 3: 1 1 1; of 4: 2 2 0.
        CamelParts x = Due.told("heir 6 14;heir 6 14;heir 2 14;rests;");
        Due.due("loses(2, 0)", x.loses(2, 0), NONE);
        Due.due("loses(2, 1)", x.loses(2, 1), NONE);
        Due.due("loses(3, 0)", x.loses(3, 0), 3);
        Due.due("loses(3, 1)", x.loses(3, 1), 2);
        Due.due("loses(200, 0)", x.loses(200, 0), 3);
        Due.due("loses(201, 0)", x.loses(201, 0), BAD);
        Due.due("loses(-1, 0)", x.loses(-1, 0), BAD);
        Due.due("loses(3, 2)", x.loses(3, 2), BAD);
        Due.due("loses(3, -1)", x.loses(3, -1), BAD);
        for (int kind = 2; kind < 4; kind++) {
            x.judge(kind);
            Due.due("rows lose none", x.loses(200, 0), NONE);
        }
        CamelParts y = Due.told("heir 1 2;heir 1 1;");
        Due.due("loses by told: 0 1 of 1, 1 1 of 2", y.loses(200, 0), NONE);
        CamelParts z = Due.told("heir 1 2;heir 1 2;heir 1 1;");
        // Of 1: 0 0 1; of 2: 1 1 0.
        Due.due("loses by told", z.loses(200, 0), 1);
        Due.due("loses by told: who", z.loses(200, 1), 2);
        CamelParts first = Due.told("heir 2 14;heir 6 14;heir 6 14;rests;");
        Due.due("loses: the first", first.loses(200, 1), 0);
        Due.due("loses(0, 0)", first.loses(0, 0), NONE);
        Due.due("loses without heirs", new CamelParts().loses(200, 0), NONE);
    }

    private static void keeping() {
        CamelParts x = Due.told("heir 6 9;heir 5 9;heir 1 9;row;");
        Due.due("keeps(9, 0)", x.keeps(9, 0), NONE);
        Due.due("keeps(10, 0)", x.keeps(10, 0), 10);
        // 6 4 0, of which the first's quota is 5.
        Due.due("keeps(10, 1)", x.keeps(10, 1), 0);
        x.judge(1);
        Due.due("rests keep it", x.keeps(200, 0), NONE);
        Due.due("rests keep it", x.keeps(200, 1), NONE);
        Due.due("keeps(201, 0)", x.keeps(201, 0), BAD);
        Due.due("keeps(-1, 0)", x.keeps(-1, 0), BAD);
        Due.due("keeps(0, 2)", x.keeps(0, 2), BAD);
        Due.due("keeps(0, -1)", x.keeps(0, -1), BAD);
        Due.due("keeps without heirs", new CamelParts().keeps(200, 0), NONE);
        // Of 2 the first has both, 1 above his quota.
        CamelParts y = Due.told("heir 1 1;heir 1 1;");
        Due.due("keeps by told", y.keeps(200, 0), 2);
        Due.due("keeps by told: who", y.keeps(200, 1), 0);
    }

    private static void unlikeOnes() {
        CamelParts x = Due.told("heir 1 2;heir 1 3;heir 1 9;");
        Due.due("unlike(1, 2)", x.unlike(1, 2), 4);
        Due.due("unlike(2, 1)", x.unlike(2, 1), 4);
        Due.due("unlike(2, 3)", x.unlike(2, 3), 4);
        Due.due("unlike(0, 1)", x.unlike(0, 1), 1);
        Due.due("unlike(1, 1)", x.unlike(1, 1), BAD);
        Due.due("unlike(-1, 1)", x.unlike(-1, 1), BAD);
        Due.due("unlike(1, 4)", x.unlike(1, 4), BAD);
        CamelParts y = Due.told("heir 1 1;");
        Due.due("one heir has all", y.unlike(0, 3), NONE);
        Due.due("without heirs", new CamelParts().unlike(0, 3), NONE);
        // By row the second one's first comes when 7 by 200 is less than 2 by 57.
        Due.due("the last herd", Due.told("heir 7 1;heir 2 57;").unlike(0, 2), 200);
        Due.due("one beyond", Due.told("heir 7 1;heir 1 29;").unlike(0, 2), NONE);
        CamelParts z = Due.told("heir 9 99;");
        Due.due("9 by 99 has none of 1 by told", z.unlike(0, 2), 1);
        Due.due("one heir has all", z.unlike(1, 2), NONE);
    }

    private static void bestOnes() {
        CamelParts x = Due.told("heir 5 9;heir 3 9;heir 1 9;herd 8;");
        Due.due("best(0)", x.best(0), 2);
        Due.due("best(1): several", x.best(1), 1);
        Due.due("best(2): several", x.best(2), 1);
        Due.due("best(3)", x.best(3), BAD);
        Due.due("best(-1)", x.best(-1), BAD);
        x.herd(0);
        Due.due("best of none", x.best(2), 0);
    }

    private static void gaining() {
        CamelParts x = Due.told("heir 1 2;heir 1 3;heir 1 9;");
        Due.due("gains by told", x.gains(0, 0), NONE);
        Due.due("gains by told", x.gains(0, 1), NONE);
        x.judge(1);
        Due.due("gains(0, 0)", x.gains(0, 0), 1);
        Due.due("gains(0, 1)", x.gains(0, 1), 5);
        Due.due("gains(2, 0)", x.gains(2, 0), 0);
        // Without the first: 12 3/4 and 4 1/4.
        Due.due("gains(2, 1)", x.gains(2, 1), 2);
        Due.due("gains(3, 0)", x.gains(3, 0), BAD);
        Due.due("gains(-1, 0)", x.gains(-1, 0), BAD);
        Due.due("gains(0, 2)", x.gains(0, 2), BAD);
        Due.due("gains(0, -1)", x.gains(0, -1), BAD);
        Due.due("nobody died", x.rule(0), 3);
        CamelParts several = Due.told("heir 1 3;heir 1 3;heir 1 3;herd 6;row;");
        Due.due("of several the first", several.gains(0, 0), 1);
        Due.due("of several the first", several.gains(2, 0), 0);
        Due.due("one alone gains by nobody's", Due.told("heir 1 3;odd;").gains(0, 0), NONE);
    }

    private static void wanting() {
        CamelParts x = Due.told("heir 1 2;heir 1 3;heir 1 9;rests;");
        Due.due("wants(2, 0)", x.wants(2, 0), 0);
        Due.due("wants(2, 1)", x.wants(2, 1), 4);
        Due.due("wants(0, 9)", x.wants(0, 9), 17);
        Due.due("wants(0, 999)", x.wants(0, 999), NONE);
        Due.due("wants(3, 1)", x.wants(3, 1), BAD);
        Due.due("wants(-1, 1)", x.wants(-1, 1), BAD);
        Due.due("wants(0, 1000)", x.wants(0, 1000), BAD);
        Due.due("wants(0, -1)", x.wants(0, -1), BAD);
        CamelParts y = Due.told("heir 1 1;row;");
        Due.due("all of 999", y.wants(0, 999), 999);
        CamelParts z = Due.told("heir 9 1;heir 1 1;");
        Due.due("nothing is ever left", z.wants(1, 1), NONE);
    }
}

/** Promises 6 to 15: rule, heir, told, sum, over, and what is changed. */
public final class PartsTest {
    private static final int BAD = CamelParts.BAD;

    public static void main(String[] args) {
        rules();
        heirs();
        fractions();
        gettingByTold();
        offQuota();
        altering();
        herdAndJudge();
        bearing();
        dying();
        Due.finish();
    }

    private static void rules() {
        CamelParts x = Due.told("heir 1 2;heir 1 3;herd 12;odd;");
        Due.due("rule(-1)", x.rule(-1), BAD);
        Due.due("rule(5)", x.rule(5), BAD);
        Due.due("rule(0)", x.rule(0), 2);
        Due.due("rule(1)", x.rule(1), 12);
        Due.due("rule(2)", x.rule(2), 3);
        Due.due("rule(3) below 1", x.rule(3), 0);
        Due.due("rule(4)", x.rule(4), 12);
        x.bear(1, 6);
        Due.due("rule(3) of 1", x.rule(3), 1);
        x.bear(1, 99);
        Due.due("rule(3) above 1", x.rule(3), 2);
        x.judge(0);
        Due.due("rule(4) by told", x.rule(4), 12);
        x.herd(11);
        Due.due("rule(4) by told", x.rule(4), 9);
    }

    private static void heirs() {
        CamelParts x = Due.told("heir 2 7;heir 5 9;");
        Due.due("heir(-1, 0)", x.heir(-1, 0), BAD);
        Due.due("heir(2, 0)", x.heir(2, 0), BAD);
        Due.due("heir(0, -1)", x.heir(0, -1), BAD);
        Due.due("heir(0, 4)", x.heir(0, 4), BAD);
        Due.due("heir(1, 0)", x.heir(1, 0), 5);
        Due.due("heir(1, 1)", x.heir(1, 1), 9);
        Due.due("heir(0, 2)", x.heir(0, 2), 4);
        Due.due("heir(1, 2)", x.heir(1, 2), 9);
    }

    private static void fractions() {
        CamelParts x = Due.told("heir 6 9;heir 1 4;herd 18;");
        Due.due("told(0, 0)", x.told(0, 0), 12);
        Due.due("told(0, 1)", x.told(0, 1), 1);
        Due.due("told(1, 0)", x.told(1, 0), 9);
        Due.due("told(1, 1)", x.told(1, 1), 2);
        Due.due("over(0, 0)", x.over(0, 0), 0);
        Due.due("over(0, 1)", x.over(0, 1), 1);
        Due.due("over(1, 0)", x.over(1, 0), -1);
        Due.due("over(1, 1)", x.over(1, 1), 2);
        Due.due("sum(0)", x.sum(0), 11);
        Due.due("sum(1)", x.sum(1), 12);
        x.judge(1);
        // Quotas 13 1/11 and 4 10/11.
        Due.due("over(0, 0) by rests", x.over(0, 0), 1);
        Due.due("over(1, 0) by rests", x.over(1, 0), 1);
        Due.due("over(1, 1) by rests", x.over(1, 1), 2);
        x.herd(0);
        Due.due("told of none", x.told(1, 0), 0);
        Due.due("told of none", x.told(1, 1), 1);
        wrongFractions(x);
        CamelParts none = new CamelParts();
        Due.due("sum(0) of none", none.sum(0), 0);
        Due.due("sum(1) of none", none.sum(1), 1);
        CamelParts big = Due.told("heir 9 97;heir 8 89;heir 7 83;heir 6 79;heir 5 73;herd 999;");
        Due.due("sum(0) of prime downs", big.sum(0), 1700230961L);
        Due.due("sum(1) of prime downs", big.sum(1), 4132280413L);
        CamelParts alike = Due.told("heir 9 99;heir 9 98;heir 9 97;heir 9 95;heir 9 89;");
        Due.due("sum(0) in lowest terms", alike.sum(0), 416758301L);
        Due.due("sum(1) in lowest terms", alike.sum(1), 884105530L);
    }

    private static void wrongFractions(CamelParts x) {
        for (int what = -1; what <= 2; what += 3) {
            Due.due("told(0, wrong)", x.told(0, what), BAD);
            Due.due("sum(wrong)", x.sum(what), BAD);
            Due.due("over(0, wrong)", x.over(0, what), BAD);
        }
        for (int i = -1; i <= 2; i += 3) {
            Due.due("told(wrong, 0)", x.told(i, 0), BAD);
            Due.due("over(wrong, 0)", x.over(i, 0), BAD);
        }
    }

    private static void gettingByTold() {
        CamelParts x = Due.told("heir 2 3;heir 2 3;heir 2 3;herd 10;");
        Due.due("first gets all told, down", x.heir(0, 2), 6);
        Due.due("second gets what is left", x.heir(1, 2), 4);
        Due.due("third gets none", x.heir(2, 2), 0);
        Due.due("rule(4)", x.rule(4), 10);
        Due.due("count(4)", x.count(4), 0);
        Due.due("over(2, 0)", x.over(2, 0), -20);
        Due.due("over(2, 1)", x.over(2, 1), 3);
    }

    private static void offQuota() {
        CamelParts x = Due.told("heir 1 2;heir 1 3;heir 1 9;");
        Due.due("just 1 below", x.heir(0, 3), 1);
        x.herd(16);
        Due.due("less than 1 below", x.heir(0, 3), 0);
        CamelParts y = Due.told("heir 1 1;heir 1 1;herd 2;");
        Due.due("just 1 above", y.heir(0, 3), 1);
        Due.due("just 1 below", y.heir(1, 3), 1);
        y.herd(1);
        Due.due("a half above", y.heir(0, 3), 0);
        y.herd(0);
        Due.due("none of none", y.heir(0, 3), 0);
    }

    private static void altering() {
        CamelParts x = Due.told("heir 1 2;heir 3 4;");
        Due.due("alter(1, 0, 9)", x.alter(1, 0, 9), 3);
        Due.due("alter(1, 1, 99)", x.alter(1, 1, 99), 4);
        Due.due("alter(1, 0, 1)", x.alter(1, 0, 1), 9);
        Due.due("alter(1, 1, 1)", x.alter(1, 1, 1), 99);
        Due.due("alter(1, 0, 0)", x.alter(1, 0, 0), BAD);
        Due.due("alter(1, 0, 10)", x.alter(1, 0, 10), BAD);
        Due.due("alter(1, 1, 0)", x.alter(1, 1, 0), BAD);
        Due.due("alter(1, 1, 100)", x.alter(1, 1, 100), BAD);
        Due.due("alter(1, 2, 1)", x.alter(1, 2, 1), BAD);
        Due.due("alter(1, -1, 1)", x.alter(1, -1, 1), BAD);
        Due.due("alter(2, 0, 1)", x.alter(2, 0, 1), BAD);
        Due.due("alter(-1, 0, 1)", x.alter(-1, 0, 1), BAD);
        Due.due("heir(1, 0)", x.heir(1, 0), 1);
        Due.due("heir(1, 1)", x.heir(1, 1), 1);
        Due.due("heir(0, 0)", x.heir(0, 0), 1);
        Due.due("heir(0, 1)", x.heir(0, 1), 2);
    }

    private static void herdAndJudge() {
        CamelParts x = new CamelParts();
        Due.due("herd(0)", x.herd(0), 17);
        Due.due("herd(999)", x.herd(999), 0);
        Due.due("herd(-1)", x.herd(-1), BAD);
        Due.due("herd(1000)", x.herd(1000), BAD);
        Due.due("rule(1)", x.rule(1), 999);
        Due.due("judge(3)", x.judge(3), 0);
        Due.due("judge(-1)", x.judge(-1), BAD);
        Due.due("judge(4)", x.judge(4), BAD);
        Due.due("rule(2)", x.rule(2), 3);
        Due.due("judge(0)", x.judge(0), 3);
    }

    private static void bearing() {
        CamelParts x = new CamelParts();
        Due.due("bear(0, 1)", x.bear(0, 1), BAD);
        Due.due("bear(10, 1)", x.bear(10, 1), BAD);
        Due.due("bear(1, 0)", x.bear(1, 0), BAD);
        Due.due("bear(1, 100)", x.bear(1, 100), BAD);
        Due.due("rule(0)", x.rule(0), 0);
        for (int n = 1; n <= 5; n++) {
            Due.due("bear", x.bear(n, 90 + n), n);
        }
        Due.due("bear: full", x.bear(9, 99), CamelParts.FULL);
        Due.due("bear: BAD first", x.bear(9, 100), BAD);
        Due.due("heir(4, 0)", x.heir(4, 0), 5);
        Due.due("heir(4, 1)", x.heir(4, 1), 95);
    }

    private static void dying() {
        CamelParts x = Due.told("heir 1 11;heir 2 12;heir 3 13;heir 4 14;");
        Due.due("dies(4)", x.dies(4), BAD);
        Due.due("dies(-1)", x.dies(-1), BAD);
        Due.due("dies(1)", x.dies(1), 3);
        int[] ups = {1, 3, 4};
        for (int i = 0; i < 3; i++) {
            Due.due("heir up", x.heir(i, 0), ups[i]);
            Due.due("heir down", x.heir(i, 1), 10 + ups[i]);
        }
        Due.due("dies(2)", x.dies(2), 2);
        Due.due("dies(0)", x.dies(0), 1);
        Due.due("heir(0, 0)", x.heir(0, 0), 3);
        Due.due("dies(0)", x.dies(0), 0);
        Due.due("dies(0)", x.dies(0), BAD);
    }
}

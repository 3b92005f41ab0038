/** Promises 30 to 35: see, forget, judges, herds, downs, ask. */
public final class SeenTest {
    private static final int BAD = CamelParts.BAD;
    private static final int NONE = CamelParts.NONE;

    public static void main(String[] args) {
        seeing();
        forgetting();
        whichJudge();
        whichHerds();
        whichDowns();
        whomToAsk();
        heirsThatAreNoMore();
        Due.finish();
    }

    private static void seeing() {
        CamelParts x = Due.told("heir 1 2;heir 1 3;");
        Due.due("see(2, 1)", x.see(2, 1), BAD);
        Due.due("see(-1, 1)", x.see(-1, 1), BAD);
        Due.due("see(0, -1)", x.see(0, -1), BAD);
        Due.due("see(0, 1000)", x.see(0, 1000), BAD);
        for (int n = 1; n <= 6; n++) {
            Due.due("see", x.see(n % 2, n == 1 ? 999 : 0), n);
        }
        Due.due("the 7th", x.see(0, 0), CamelParts.FULL);
        Due.due("BAD first", x.see(0, 1000), BAD);
        Due.due("count(0)", x.count(0), 6);
    }

    private static void forgetting() {
        CamelParts x = Due.told("heir 1 2;heir 1 3;");
        x.see(0, 8);
        x.see(1, 9);
        Due.due("judges()", x.judges(), 0);
        Due.due("forget(3)", x.forget(3), BAD);
        Due.due("forget(-1)", x.forget(-1), BAD);
        Due.due("forget(2)", x.forget(2), 2);
        Due.due("forget(1)", x.forget(1), 2);
        Due.due("count(0)", x.count(0), 1);
        Due.due("the first stays", x.judges(), 1);
        Due.due("forget(0)", x.forget(0), 1);
        Due.due("forget(0)", x.forget(0), 0);
        Due.due("judges()", x.judges(), 15);
    }

    private static void whichJudge() {
        CamelParts x = Due.told("heir 5 9;heir 3 9;heir 1 9;herd 8;");
        Due.due("nothing seen", x.judges(), 15);
        x.see(0, 4);
        Due.due("4", x.judges(), 11);
        x.see(1, 3);
        Due.due("4 3", x.judges(), 10);
        x.see(0, 5);
        Due.due("4 and 5", x.judges(), 0);
        x.forget(0);
        x.see(0, 5);
        Due.due("5", x.judges(), 4);
        Due.due("without heirs", new CamelParts().judges(), 15);
    }

    private static void whichHerds() {
        CamelParts x = Due.told("heir 1 2;heir 1 3;");
        Due.due("herds(0)", x.herds(0), 201);
        Due.due("herds(1)", x.herds(1), 0);
        Due.due("herds(2)", x.herds(2), 200);
        x.see(0, 8);
        Due.due("herds(0)", x.herds(0), 2);
        Due.due("herds(1)", x.herds(1), 16);
        Due.due("herds(2)", x.herds(2), 17);
        x.see(1, 7);
        Due.due("herds(0) of none", x.herds(0), 0);
        Due.due("herds(1) of none", x.herds(1), NONE);
        Due.due("herds(2) of none", x.herds(2), NONE);
        Due.due("herds(3)", x.herds(3), BAD);
        Due.due("herds(-1)", x.herds(-1), BAD);
        x.forget(0);
        x.see(0, 100);
        Due.due("200 is the last", x.herds(0), 1);
        Due.due("herd stays", x.rule(1), 17);
    }

    private static void whichDowns() {
        CamelParts x = Due.told("heir 1 2;heir 1 3;");
        Due.due("downs(0, 0)", x.downs(0, 0), 99);
        Due.due("downs(0, 1)", x.downs(0, 1), 1);
        Due.due("downs(0, 2)", x.downs(0, 2), 99);
        x.see(0, 2);
        // 17 by 6, 7, 8.
        Due.due("downs(0, 0)", x.downs(0, 0), 3);
        Due.due("downs(0, 1)", x.downs(0, 1), 6);
        Due.due("downs(0, 2)", x.downs(0, 2), 8);
        Due.due("downs(1, 0): the other is what he is", x.downs(1, 0), 0);
        Due.due("downs(1, 1)", x.downs(1, 1), NONE);
        Due.due("downs(1, 2)", x.downs(1, 2), NONE);
        Due.due("down stays", x.heir(0, 1), 2);
        Due.due("downs(2, 0)", x.downs(2, 0), BAD);
        Due.due("downs(-1, 0)", x.downs(-1, 0), BAD);
        Due.due("downs(0, 3)", x.downs(0, 3), BAD);
        Due.due("downs(0, -1)", x.downs(0, -1), BAD);
    }

    private static void whomToAsk() {
        CamelParts x = Due.told("heir 1 2;heir 1 3;heir 1 9;");
        // 201 herds: the second has each number thrice at the worst, the first twice.
        Due.due("ask(0)", x.ask(0), 0);
        Due.due("ask(1)", x.ask(1), 2);
        x.see(0, 8);
        // 16, 17: 5 5 and 1 1: nobody's answer leaves fewer.
        Due.due("ask(0): none", x.ask(0), NONE);
        Due.due("ask(1): none", x.ask(1), NONE);
        x.forget(0);
        x.see(0, 7);
        // 14, 15: the second has 4 or 5.
        Due.due("ask(0)", x.ask(0), 1);
        Due.due("ask(1)", x.ask(1), 1);
        x.see(0, 9);
        Due.due("no herds: none", x.ask(0), NONE);
        Due.due("ask(2)", x.ask(2), BAD);
        Due.due("ask(-1)", x.ask(-1), BAD);
        Due.due("without heirs", new CamelParts().ask(0), NONE);
        CamelParts same = Due.told("heir 1 2;heir 1 2;");
        Due.due("of several the first", same.ask(0), 0);
    }

    // What is seen names an heir by his place.
    private static void heirsThatAreNoMore() {
        CamelParts x = Due.told("heir 1 2;heir 1 3;");
        x.see(1, 5);
        Due.due("judges()", x.judges() & 1, 1);
        x.dies(0);
        Due.due("there is no such heir any more", x.judges(), 0);
        Due.due("herds(0)", x.herds(0), 0);
        Due.due("downs(0, 0)", x.downs(0, 0), 0);
        Due.due("still seen", x.count(0), 1);
        Due.due("not even of none", zeroOfNobody(), 0);
    }

    private static int zeroOfNobody() {
        CamelParts x = Due.told("heir 1 2;heir 1 3;");
        x.see(1, 0);
        x.dies(1);
        return x.judges() + x.herds(0);
    }
}

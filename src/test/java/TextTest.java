/** Promises 1 to 5: a new object, feed, end, text, fault. */
public final class TextTest {
    public static void main(String[] args) {
        newObject();
        feeding();
        ending();
        textsTaken();
        whatATextReplaces();
        faultsOfTokens();
        faultsOfPlaces();
        faultsOfNumbers();
        faultsOfSecondTimes();
        faultsInOrder();
        whatARefusedTextLeaves();
        Due.finish();
    }

    private static void newObject() {
        CamelParts x = new CamelParts();
        for (int what = 0; what <= 4; what++) {
            Due.due("new: rule", x.rule(what), what == 1 ? 17 : 0);
        }
        Due.due("new: fault()", x.fault(), 0);
        Due.due("new: torn()", x.torn(), 0);
        Due.due("new: count(0)", x.count(0), 0);
        Due.due("new: count(1)", x.count(1), 0);
        Due.due("new: count(2)", x.count(2), 0);
        Due.due("new: count(3)", x.count(3), CamelParts.NONE);
        Due.due("new: count(4)", x.count(4), 17);
        for (int k = 0; k < 4; k++) {
            Due.due("new: lay", x.lay(k, 0, 1), -11);
        }
    }

    private static void feeding() {
        CamelParts x = new CamelParts();
        Due.due("feed(-1)", x.feed(-1), CamelParts.BAD);
        Due.due("feed(128)", x.feed(128), CamelParts.BAD);
        Due.due("feed(min)", x.feed(Integer.MIN_VALUE), CamelParts.BAD);
        Due.due("feed(0)", x.feed(0), 1);
        Due.due("feed(127)", x.feed(127), 2);
        for (int i = 3; i <= 160; i++) {
            Due.due("feed(32)", x.feed(32), i);
        }
        Due.due("the 161st", x.feed(32), CamelParts.FULL);
        Due.due("BAD comes first", x.feed(128), CamelParts.BAD);
        Due.due("count(2)", x.count(2), 160);
    }

    private static void ending() {
        CamelParts x = Due.fed(new CamelParts(), "herd 5;xx");
        Due.due("end(10)", x.end(10), CamelParts.BAD);
        Due.due("end(-1)", x.end(-1), CamelParts.BAD);
        Due.due("end(9)", x.end(9), 9);
        Due.due("end(7)", x.end(7), 9);
        Due.due("count(2)", x.count(2), 7);
        Due.due("end(8)", x.end(8), CamelParts.BAD);
        Due.due("feed", x.feed(' '), 8);
        Due.due("text()", x.text(), 1);
        Due.due("rule(1)", x.rule(1), 5);
        Due.due("end(0)", x.end(0), 0);
    }

    private static void textsTaken() {
        taken("", 0);
        taken("    ", 0);
        taken("heir 1 2;", 1);
        taken("  heir1 2  ;herd3;odd;  ", 3);
        taken("heir 009 099;heir 01 01;", 2);
        taken("herd 0;", 1);
        taken("herd 999;", 1);
        taken("heir 1 2;heir 1 2;heir 1 2;heir 1 2;heir 1 2;herd 000;row;", 7);
        CamelParts x = Due.told("heir 2 3;herd 40;heir 9 99;rests;");
        Due.due("rule(0)", x.rule(0), 2);
        Due.due("rule(1)", x.rule(1), 40);
        Due.due("rule(2)", x.rule(2), 1);
        Due.due("heir(0, 0)", x.heir(0, 0), 2);
        Due.due("heir(0, 1)", x.heir(0, 1), 3);
        Due.due("heir(1, 0)", x.heir(1, 0), 9);
        Due.due("heir(1, 1)", x.heir(1, 1), 99);
        String[] judges = {"told;", "rests;", "row;", "odd;"};
        for (int kind = 0; kind < 4; kind++) {
            Due.due(judges[kind], Due.told(judges[kind]).rule(2), kind);
        }
    }

    private static void taken(String text, int lines) {
        CamelParts x = Due.fed(new CamelParts(), text);
        Due.due("text() of '" + text + "'", x.text(), lines);
        Due.due("fault() of '" + text + "'", x.fault(), 0);
        Due.due("count(2) behind text()", x.count(2), 0);
    }

    private static void whatATextReplaces() {
        CamelParts x = Due.told("heir 1 2;herd 40;rests;");
        x.see(0, 3);
        x.keep(0);
        x.keep(1);
        x.sheet(0, 2, 7);
        Due.fed(x, "heir 1 3;heir 1 4;");
        Due.due("text()", x.text(), 2);
        Due.due("heirs", x.rule(0), 2);
        Due.due("herd as at first", x.rule(1), 17);
        Due.due("judge as at first", x.rule(2), 0);
        Due.due("nothing is seen", x.count(0), 0);
        Due.due("no images", x.count(1), 0);
        Due.due("back(0)", x.back(0), CamelParts.STATE);
        Due.due("sheets stay", x.count(3), 7);
        Due.due("empty text()", x.text(), 0);
        Due.due("no heirs", x.rule(0), 0);
    }

    private static void faultsOfTokens() {
        refused("heir 1 2;$", 9, 1);
        refused("Heir 1 2;", 0, 1);
        refused("heir\t1 2;", 4, 1);
        refused("herd 1000;", 5, 1);
        refused("herd 0000;", 5, 1);
        refused("1234;", 0, 1);
        refused("herd 1,", 6, 1);
        refused("told:", 4, 1);
        refused("told/", 4, 1);
        refused("told`", 4, 1);
        refused("told{", 4, 1);
    }

    private static void faultsOfPlaces() {
        refused("heirs 1 2;", 0, 2);
        refused("hei 1 2;", 0, 2);
        refused("xeir 1 2;", 0, 2);
        refused("odo;", 0, 2);
        refused("  camel;", 2, 2);
        refused("12;", 0, 2);
        refused(";", 0, 2);
        refused("told;;", 5, 2);
        refused("heir", 4, 2);
        refused("heir  ", 6, 2);
        refused("heir 1", 6, 2);
        refused("heir 1 2", 8, 2);
        refused("heir 1 2 3;", 9, 2);
        refused("heir a 2;", 5, 2);
        refused("heir;", 4, 2);
        refused("herd;", 4, 2);
        refused("herd told;", 5, 2);
        refused("told 1;", 5, 2);
        refused("told told;", 5, 2);
        refused("row", 3, 2);
    }

    private static void faultsOfNumbers() {
        refused("heir 0 2;", 5, 3);
        refused("heir 10 2;", 5, 3);
        refused("heir 1 0;", 7, 3);
        refused("heir 1 100;", 7, 3);
        refused("heir 1 2;heir 9 999;", 16, 3);
    }

    private static void faultsOfSecondTimes() {
        refused("herd 1;herd 1;", 7, 4);
        refused("row;herd 2;row;", 11, 4);
        refused("told;odd;", 5, 4);
        refused("heir 1 2;heir 1 2;heir 1 2;heir 1 2;heir 1 2; heir 1 2;", 46, 5);
    }

    private static void faultsInOrder() {
        refused("heir 10$", 5, 3);
        refused("heir 1 0 $", 7, 3);
        refused("herd 1;herd$", 7, 4);
        refused("odd;odd 1000", 4, 4);
        refused("camel$", 0, 2);
        refused("heir 1 2$", 8, 1);
        refused("heir 1 2;heir 1 2;heir 1 2;heir 1 2;heir 1 2;heir$", 45, 5);
        refused("told 1000", 5, 1);
    }

    private static void refused(String text, int place, int fault) {
        CamelParts x = Due.fed(new CamelParts(), text);
        Due.due("text() of '" + text + "'", x.text(), -10 - place);
        Due.due("fault() of '" + text + "'", x.fault(), fault);
        Due.due("count(2) behind text()", x.count(2), 0);
        Due.due("heirs stay", x.rule(0), 0);
    }

    private static void whatARefusedTextLeaves() {
        CamelParts x = Due.told("heir 1 2;herd 40;rests;");
        x.see(0, 40);
        x.keep(1);
        Due.fed(x, "heir 1 3;herd 3;odd;heir 1;");
        Due.due("text()", x.text(), -36);
        Due.due("fault()", x.fault(), 2);
        Due.due("heirs", x.rule(0), 1);
        Due.due("down", x.heir(0, 1), 2);
        Due.due("herd", x.rule(1), 40);
        Due.due("judge", x.rule(2), 1);
        Due.due("seen", x.count(0), 1);
        Due.due("images", x.count(1), 1);
        Due.fed(x, "told;");
        Due.due("text()", x.text(), 1);
        Due.due("fault() of the latest", x.fault(), 0);
    }
}

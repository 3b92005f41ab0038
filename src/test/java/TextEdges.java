/** Boundary cases of promises 1 to 5, and of the tape, its tokens and its faults. */
final class TextEdges {
    private static final int BAD = CamelParts.BAD, STATE = CamelParts.STATE, FULL = CamelParts.FULL, NONE = CamelParts.NONE;
    private static final String FIVE = "heir 1 2;heir 1 2;heir 1 2;heir 1 2;heir 1 2;";

    private TextEdges() {
    }

    static void all() {
        newObject();
        feeding();
        feedingTooMuch();
        ending();
        endingWrong();
        tapeOf160();
        emptyText();
        textRefused();
        textRefusedAtTheEnds();
        latestFault();
        everyByte();
        longestTokens();
        figures();
        noToken();
        misplaced();
        misspelt();
        theEnd();
        outOfBounds();
        secondTime();
        sixthHeir();
        firstMet();
        textTaken();
        lastOf512Calls();
    }

    private static void newObject() {
        Edge.of(1, "No HEIRS, seventeen camels; SHEETS of nothing.");
        CamelParts x = new CamelParts();
        Due.due("heirs", x.rule(0), 0);
        Due.due("camels", x.rule(1), 17);
        Due.due("judge", x.rule(2), 0);
        for (int k = 0; k < 4; k++) {
            Due.due("sheet", x.lay(k, 0, 0), -11);
        }
        Due.due("no image", x.back(0), STATE);
        Due.due("no image", x.back(1), STATE);
        Due.due("nothing seen", x.count(0), 0);
        Due.due("no images", x.count(1), 0);
        Due.due("nothing on the tape", x.count(2), 0);
        Due.due("sheet 0", x.count(3), NONE);
        Due.due("fault()", x.fault(), 0);
        Due.due("torn()", x.torn(), 0);
    }

    private static void feeding() {
        Edge.of(2, "A byte (0 to 127) comes behind THE TAPE: how many it has. BAD;");
        CamelParts x = new CamelParts();
        int[] wrong = {-1, 128, 256 + 32, Integer.MIN_VALUE, Integer.MAX_VALUE};
        for (int c : wrong) {
            Due.due("feed(" + c + ")", x.feed(c), BAD);
        }
        Due.due("nothing came", x.count(2), 0);
        Due.due("feed(0)", x.feed(0), 1);
        Due.due("feed(127)", x.feed(127), 2);
        Due.due("two came", x.count(2), 2);
    }

    private static void feedingTooMuch() {
        Edge.of(2, "FULL: more than 160.");
        CamelParts x = new CamelParts();
        for (int n = 1; n <= 160; n++) {
            Due.due("feed", x.feed(' '), n);
        }
        Due.due("the 161st", x.feed(' '), FULL);
        Due.due("the 161st again", x.feed(0), FULL);
        Due.due("so many", x.count(2), 160);
        Due.due("one goes", x.end(159), 160);
        Due.due("one comes", x.feed('x'), 160);
        Due.due("the 161st", x.feed(' '), FULL);
        Due.due("the last byte is the one that came", x.text(), -169);
        Due.due("the tape is empty", x.feed(' '), 1);
    }

    private static void ending() {
        Edge.of(3, "THE TAPE keeps its first n bytes: how many it had.");
        CamelParts x = Due.fed(new CamelParts(), "herd 5;row;");
        Due.due("end(all)", x.end(11), 11);
        Due.due("end(7)", x.end(7), 11);
        Due.due("end(7) again", x.end(7), 7);
        Due.due("so many", x.count(2), 7);
        Due.due("its first", x.text(), 1);
        Due.due("herd", x.rule(1), 5);
        Due.due("judge", x.rule(2), 0);
        Due.due("end(0) of none", x.end(0), 0);
        Due.fed(x, "x");
        Due.due("end(0)", x.end(0), 1);
        Due.due("nothing stays", x.text(), 0);
    }

    private static void endingWrong() {
        Edge.of(3, "BAD.");
        CamelParts x = new CamelParts();
        Due.due("end(1) of none", x.end(1), BAD);
        Due.due("end(-1) of none", x.end(-1), BAD);
        Due.fed(x, "told;");
        Due.due("end(6) of 5", x.end(6), BAD);
        Due.due("end(-1)", x.end(-1), BAD);
        Due.due("end(min)", x.end(Integer.MIN_VALUE), BAD);
        Due.due("end(max)", x.end(Integer.MAX_VALUE), BAD);
        Due.due("so many", x.count(2), 5);
        for (int n = 6; n <= 160; n++) {
            Due.due("feed", x.feed(' '), n);
        }
        Due.due("end(161) of 160", x.end(161), BAD);
        Due.due("end(160) of 160", x.end(160), 160);
        Due.due("text()", x.text(), 1);
    }

    private static void tapeOf160() {
        Edge.of(Edge.TERMS, "THE TAPE has 160 bytes, places from 0.");
        CamelParts x = Due.fed(new CamelParts(), " ".repeat(152) + "herd 71;");
        Due.due("the last byte is read", x.text(), 1);
        Due.due("herd", x.rule(1), 71);
        CamelParts words = Due.fed(new CamelParts(), FIVE + "herd 999;rests;" + " ".repeat(99) + ";");
        Due.due("place 159", words.text(), -10 - 159);
        CamelParts letters = Due.fed(new CamelParts(), "o".repeat(160));
        Due.due("a name of 160", letters.text(), -10);
        Due.due("fault()", letters.fault(), 2);
        CamelParts numbers = Due.fed(new CamelParts(), "herd " + "9".repeat(155));
        Due.due("a number of 155", numbers.text(), -15);
        Due.due("fault()", numbers.fault(), 1);
    }

    private static void emptyText() {
        Edge.of(4, "THE TAPE (empty then) tells all: how many lines;");
        CamelParts x = Due.told(FIVE + "herd 5;odd;");
        Due.due("the tape is empty", x.count(2), 0);
        Due.due("the first byte", x.feed(' '), 1);
        Due.due("text() of a blank", x.text(), 0);
        Due.due("no heirs", x.rule(0), 0);
        Due.due("herd", x.rule(1), 17);
        Due.due("judge", x.rule(2), 0);
        Due.due("text() of nothing", x.text(), 0);
        Due.fed(x, FIVE + "herd 5;odd;");
        Due.due("text() of most lines", x.text(), 7);
    }

    private static void textRefused() {
        Edge.of(4, "-10 less the place of its FAULT: that which was told stays.");
        CamelParts x = Due.told("heir 2 7;herd 40;rests;");
        x.see(0, 40);
        x.keep(1);
        x.sheet(0, 1, 3);
        Due.fed(x, "heir 1 3;heir 1 4;herd 3;odd;!");
        Due.due("text()", x.text(), -10 - 29);
        Due.due("the tape is empty", x.count(2), 0);
        Due.due("heirs", x.rule(0), 1);
        Due.due("up", x.heir(0, 0), 2);
        Due.due("down", x.heir(0, 1), 7);
        Due.due("herd", x.rule(1), 40);
        Due.due("judge", x.rule(2), 1);
        Due.due("seen", x.count(0), 1);
        Due.due("as seen", x.judges(), 14);
        Due.due("images", x.count(1), 1);
        Due.due("sheet", x.count(3), 3);
        Due.due("back(1)", x.back(1), 40);
    }

    private static void textRefusedAtTheEnds() {
        refused("!", 0, 1);
        refused(" ".repeat(159) + "!", 159, 1);
        refused(" ".repeat(156) + "told", 160, 2);
        refused("told" + " ".repeat(156), 160, 2);
    }

    private static void latestFault() {
        Edge.of(5, "The FAULT of the latest text(); 0.");
        CamelParts x = new CamelParts();
        Due.due("before any", x.fault(), 0);
        String[] texts = {"!", "told", "heir 0 1;", "odd;odd;", FIVE + "heir 1 2;"};
        for (int n = 0; n < texts.length; n++) {
            Due.fed(x, texts[n]);
            x.text();
            Due.due(texts[n], x.fault(), n + 1);
            Due.due("again", x.fault(), n + 1);
        }
        x.feed(' ');
        x.end(0);
        Due.due("a tape that is not taken as a text", x.fault(), 5);
        Due.due("text()", x.text(), 0);
        Due.due("a text that is taken", x.fault(), 0);
    }

    private static void refused(String text, int place, int fault) {
        CamelParts x = Due.fed(new CamelParts(), text);
        Due.due("text() of '" + text + "'", x.text(), -10 - place);
        Due.due("fault() of '" + text + "'", x.fault(), fault);
        Due.due("count(2) behind '" + text + "'", x.count(2), 0);
        Due.due("heirs behind '" + text + "'", x.rule(0), 0);
        Due.due("herd behind '" + text + "'", x.rule(1), 17);
        Due.due("judge behind '" + text + "'", x.rule(2), 0);
    }

    private static void taken(String text, int lines) {
        CamelParts x = Due.fed(new CamelParts(), text);
        Due.due("text() of '" + text + "'", x.text(), lines);
        Due.due("fault() of '" + text + "'", x.fault(), 0);
    }

    private static void everyByte() {
        Edge.of(Edge.TERMS, "blanks (32) between: NAMES (a .. z), NUMBERS (1 to 3 figures), one ; .");
        for (int c = 0; c < 128; c++) {
            boolean isToken = c >= 'a' && c <= 'z' || c >= '0' && c <= '9' || c == ';';
            CamelParts x = new CamelParts();
            x.feed(c);
            Due.due("text() of byte " + c, x.text(), c == 32 ? 0 : -10);
            Due.due("fault() of byte " + c, x.fault(), c == 32 ? 0 : isToken ? 2 : 1);
            CamelParts behind = Due.fed(new CamelParts(), "told");
            behind.feed(c);
            Due.due("text() of told and byte " + c, behind.text(), c == ';' ? 1 : c >= 'a' && c <= 'z' ? -10 : c == 32 ? -15 : -14);
        }
        taken("   told   ;   ", 1);
        taken("heir1 2;", 1);
        taken("heir 1 2;told;herd 7;", 3);
    }

    private static void longestTokens() {
        Edge.of(Edge.TERMS, "TOKENS, each as long as may be,");
        refused("toldtold;", 0, 2);
        refused("tol d;", 0, 2);
        refused("heirs 1 2;", 0, 2);
        refused("heir 12;", 5, 3);
        refused("heir 1 2 3;", 9, 2);
        CamelParts x = Due.told("heir 1 23;herd456;");
        Due.due("down", x.heir(0, 1), 23);
        Due.due("herd", x.rule(1), 456);
        taken("heir9 99;herd0;", 2);
    }

    private static void figures() {
        String[] herds = {"0", "9", "00", "17", "000", "017", "100", "999"};
        int[] wants = {0, 9, 0, 17, 0, 17, 100, 999};
        for (int n = 0; n < herds.length; n++) {
            Due.due("herd " + herds[n], Due.told("herd " + herds[n] + ";").rule(1), wants[n]);
        }
        CamelParts x = Due.told("heir 001 099;");
        Due.due("up", x.heir(0, 0), 1);
        Due.due("down", x.heir(0, 1), 99);
    }

    private static void noToken() {
        Edge.of(Edge.TERMS, "1 no TOKEN, a NUMBER that is too long (its first byte).");
        refused("herd 1000;", 5, 1);
        refused("herd 0000;", 5, 1);
        refused("heir 0001 1;", 5, 1);
        refused("heir 1 0001;", 7, 1);
        refused("1234", 0, 1);
        refused("heir 1 2,", 8, 1);
        refused("heir -1 2;", 5, 1);
        refused("Told;", 0, 1);
        refused("told D;", 5, 1);
        refused("told\n;", 4, 1);
        // 2^32 and 17 is no 17.
        refused("herd 4294967313;", 5, 1);
    }

    private static void misplaced() {
        Edge.of(Edge.TERMS, "2 a TOKEN that can not stand there (a NAME that begins no line; or the end: the length).");
        refused("camel;", 0, 2);
        refused("hei 1 2;", 0, 2);
        refused(";", 0, 2);
        refused("7;", 0, 2);
        refused("told;;", 5, 2);
        refused("told 1;", 5, 2);
        refused("told told;", 5, 2);
        refused("herd;", 4, 2);
        refused("herd herd;", 5, 2);
        refused("herd 1 1;", 7, 2);
        refused("heir;", 4, 2);
        refused("heir heir;", 5, 2);
        refused("heir 1;", 6, 2);
        refused("heir 1 told;", 7, 2);
        refused("heir 1 2 herd;", 9, 2);
    }

    private static void misspelt() {
        String[] words = {"heir", "herd", "told", "rests", "row", "odd"};
        for (String word : words) {
            for (int i = 0; i < word.length(); i++) {
                refused(word.substring(0, i) + "z" + word.substring(i + 1) + " 1 1;", 0, 2);
                refused(word.substring(0, i) + word.substring(i + 1) + " 1 1;", 0, 2);
            }
            refused(word + "s 1 1;", 0, 2);
        }
    }

    private static void theEnd() {
        String[] open = {"heir", "heir 1", "heir 1 2", "herd", "herd 1", "told", "rests", "row", "odd"};
        for (String text : open) {
            refused(text, text.length(), 2);
            refused(text + "   ", text.length() + 3, 2);
            refused("  " + text + " ", text.length() + 3, 2);
        }
    }

    private static void outOfBounds() {
        Edge.of(Edge.TERMS, "3 a NUMBER out of its bounds.");
        refused("heir 0 1;", 5, 3);
        refused("heir 000 1;", 5, 3);
        refused("heir 10 1;", 5, 3);
        refused("heir 999 1;", 5, 3);
        refused("heir 1 0;", 7, 3);
        refused("heir 1 100;", 7, 3);
        refused("heir 1 999;", 7, 3);
        taken("heir 1 1;heir 9 1;heir 1 99;heir 9 99;", 4);
        taken("herd 0;", 1);
        taken("herd 999;", 1);
    }

    private static void secondTime() {
        Edge.of(Edge.TERMS, "4 herd, a JUDGE for the second time (its NAME).");
        refused("herd 1;herd 2;", 7, 4);
        refused("herd 17;odd;heir 1 2;herd 17;", 21, 4);
        String[] judges = {"told;", "rests;", "row;", "odd;"};
        for (String one : judges) {
            for (String other : judges) {
                refused(one + other, one.length(), 4);
                refused(one + "herd 3;  " + other, one.length() + 9, 4);
            }
            taken("herd 3;" + one, 2);
        }
    }

    private static void sixthHeir() {
        Edge.of(Edge.TERMS, "5 the 6th heir (its NAME).");
        taken(FIVE, 5);
        refused(FIVE + "heir 1 2;", 45, 5);
        refused(FIVE + "herd 5;odd;  heir 1 2;", 58, 5);
        // All heirs that there were give way.
        CamelParts x = Due.told(FIVE);
        Due.fed(x, FIVE);
        Due.due("text()", x.text(), 5);
        Due.due("heirs", x.rule(0), 5);
    }

    private static void firstMet() {
        Edge.of(Edge.TERMS, "FAULTS, the first met as it is read (a TOKEN is read when the one before has been taken):");
        refused("heir 10!", 5, 3);
        refused("heir 0 0;", 5, 3);
        refused("heir 1 0!", 7, 3);
        refused("heir 1 2!", 8, 1);
        refused("herd 1;herd!", 7, 4);
        refused("herd 1;herd 1000;", 7, 4);
        refused("odd;row!", 4, 4);
        refused(FIVE + "heir!", 45, 5);
        refused(FIVE + "heir 0 0;", 45, 5);
        refused("camel!", 0, 2);
        refused("tolD;", 0, 2);
        refused("told 1000", 5, 1);
        refused("! camel", 0, 1);
        refused("herd 1!herd", 6, 1);
        refused("odd odd;", 4, 2);
    }

    private static void textTaken() {
        Edge.of(Edge.TERMS, "A text that is taken tells all, in place of what there was; nothing is SEEN; IMAGES are gone.");
        CamelParts x = Due.told(FIVE + "herd 40;odd;");
        x.see(0, 3);
        x.keep(0);
        x.keep(1);
        x.sheet(0, 2, 7);
        Due.due("text() of nothing", x.text(), 0);
        Due.due("heirs", x.rule(0), 0);
        Due.due("herd as at first", x.rule(1), 17);
        Due.due("judge as at first", x.rule(2), 0);
        Due.due("seen", x.count(0), 0);
        Due.due("images", x.count(1), 0);
        Due.due("back(0)", x.back(0), STATE);
        Due.due("back(1)", x.back(1), STATE);
        Due.due("keep(0)", x.keep(0), 0);
        Due.due("keep(1)", x.keep(1), 0);
        Due.due("sheets stay", x.count(3), 7);
    }

    // The document's head: an object is used for 512 calls, of which the last is as good as the first.
    private static void lastOf512Calls() {
        CamelParts fed = new CamelParts();
        for (int call = 1; call <= 511; call++) {
            Due.due("call " + call, fed.feed(' '), call <= 160 ? call : FULL);
        }
        Due.due("call 512", fed.text(), 0);
        CamelParts told = Due.told("heir 1 2;");
        for (int call = 11; call <= 510; call += 2) {
            Due.due("call " + call, told.see(0, 8), 1);
            Due.due("call " + (call + 1), told.forget(0), 1);
        }
        Due.due("call 511", told.herd(999), 17);
        Due.due("call 512", told.heir(0, 2), 499);
    }
}

/** What a test is due: counts the answers that are not, and ends with exit code 1 if there is one. */
final class Due {
    private static int wrong = 0;
    private static int asked = 0;
    private static String about = "";

    private Due() {
    }

    /** What the answers due from now on are about: told with each that is wrong. */
    static void about(String words) {
        about = words.isEmpty() ? "" : "[" + words + "] ";
    }

    static void due(String call, long got, long want) {
        asked++;
        if (got != want) {
            wrong++;
            System.out.println(about + call + " answered " + got + ", due is " + want);
        }
    }

    static void finish() {
        System.out.println(wrong == 0 ? "all " + asked + " answers are as due" : wrong + " answers are not as due");
        if (wrong != 0) {
            System.exit(1);
        }
    }

    static CamelParts fed(CamelParts x, String text) {
        for (int i = 0; i < text.length(); i++) {
            due("feed", x.feed(text.charAt(i)), i + 1);
        }
        return x;
    }

    static CamelParts told(String text) {
        CamelParts x = fed(new CamelParts(), text);
        due("text() of " + text, Math.min(x.text(), 0), 0);
        return x;
    }
}

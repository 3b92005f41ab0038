/** Promises 28, 29 and 36: mean, luck, drift. */
public final class DeathTest {
    private static final int BAD = CamelParts.BAD;

    public static void main(String[] args) {
        means();
        lucks();
        wrongOnes();
        drifts();
        Due.finish();
    }

    private static void isMean(CamelParts x, int v, int i, long up, long down) {
        Due.due("mean(" + v + ", " + i + ", 0)", x.mean(v, i, 0), up);
        Due.due("mean(" + v + ", " + i + ", 1)", x.mean(v, i, 1), down);
    }

    private static void isLuck(CamelParts x, int v, int n, long up, long down) {
        Due.due("luck(" + v + ", 0, " + n + ", 0)", x.luck(v, 0, n, 0), up);
        Due.due("luck(" + v + ", 0, " + n + ", 1)", x.luck(v, 0, n, 1), down);
    }

    private static void means() {
        CamelParts all = Due.told("heir 1 1;herd 12;");
        isMean(all, 0, 0, 12, 1);
        isMean(all, 10, 0, 0, 1);
        isMean(all, 3, 0, 42, 5);
        isMean(all, 5, 0, 6, 1);
        CamelParts half = Due.told("heir 1 2;herd 3;");
        // 0 0 1 1 of 0 to 3: one die of ten each, 3 * 81 * 1 + 729 of 1000.
        isMean(half, 1, 0, 243, 250);
        all.herd(0);
        isMean(all, 7, 0, 0, 1);
        CamelParts x = Due.told("heir 1 2;heir 1 3;heir 1 9;herd 4;rests;");
        isMean(x, 5, 0, 5, 4);
        isMean(x, 5, 2, 1, 16);
    }

    private static void lucks() {
        CamelParts x = Due.told("heir 1 1;herd 2;");
        isLuck(x, 5, 0, 1, 1);
        isLuck(x, 5, 1, 3, 4);
        isLuck(x, 5, 2, 1, 4);
        isLuck(x, 5, 3, 0, 1);
        isLuck(x, 5, 999, 0, 1);
        isLuck(x, 1, 2, 81, 100);
        isLuck(x, 0, 2, 1, 1);
        isLuck(x, 10, 1, 0, 1);
        x.herd(12);
        isLuck(x, 1, 12, 282429536481L, 1000000000000L);
        isLuck(x, 9, 1, 717570463519L, 1000000000000L);
    }

    private static void wrongOnes() {
        CamelParts x = Due.told("heir 1 1;herd 13;");
        Due.due("mean of 13", x.mean(5, 0, 0), CamelParts.STATE);
        Due.due("luck of 13", x.luck(5, 0, 1, 0), CamelParts.STATE);
        for (int camels = 12; camels <= 13; camels++) {
            x.herd(camels);
            Due.due("mean: v", x.mean(11, 0, 0), BAD);
            Due.due("mean: v", x.mean(-1, 0, 0), BAD);
            Due.due("mean: i", x.mean(5, 1, 0), BAD);
            Due.due("mean: i", x.mean(5, -1, 0), BAD);
            Due.due("mean: what", x.mean(5, 0, 2), BAD);
            Due.due("mean: what", x.mean(5, 0, -1), BAD);
            Due.due("luck: v", x.luck(11, 0, 1, 0), BAD);
            Due.due("luck: v", x.luck(-1, 0, 1, 0), BAD);
            Due.due("luck: i", x.luck(5, 1, 1, 0), BAD);
            Due.due("luck: i", x.luck(5, -1, 1, 0), BAD);
            Due.due("luck: n", x.luck(5, 0, 1000, 0), BAD);
            Due.due("luck: n", x.luck(5, 0, -1, 0), BAD);
            Due.due("luck: what", x.luck(5, 0, 1, 2), BAD);
            Due.due("luck: what", x.luck(5, 0, 1, -1), BAD);
        }
    }

    private static void drifts() {
        CamelParts x = Due.told("heir 1 2;heir 1 3;heir 1 9;rests;");
        Due.due("drift(7, 9, 0)", x.drift(7, 9, 0), 273);
        Due.due("drift(7, 9, 1)", x.drift(7, 9, 1), 0);
        CamelParts all = Due.told("heir 1 1;");
        // From 0: 12345, of which bits 16 to 30 are 0; then 3554416254 (below 0 as an int), whose
        // are 21468; then 2802067423, whose are 9988.
        Due.due("drift(0, 1, 0)", all.drift(0, 1, 0), 0);
        Due.due("drift(0, 2, 0)", all.drift(0, 2, 0), 68);
        Due.due("drift(0, 3, 0)", all.drift(0, 3, 0), 156);
        Due.due("drift(12345, 2, 0)", all.drift(12345, 2, 0), 156);
        CamelParts two = Due.told("heir 1 1;heir 1 1;");
        // Of 68 both are off, and that is one herd.
        Due.due("drift(0, 2, 1)", two.drift(0, 2, 1), 1);
        Due.due("drift(0, 0, 0)", x.drift(0, 0, 0), BAD);
        Due.due("drift(0, 61, 0)", x.drift(0, 61, 0), BAD);
        Due.due("drift(0, 1, 2)", x.drift(0, 1, 2), BAD);
        Due.due("drift(0, 1, -1)", x.drift(0, 1, -1), BAD);
        Due.due("by itself", x.rule(1), 17);
        CamelParts none = new CamelParts();
        Due.due("drift without heirs", none.drift(0, 1, 0), CamelParts.STATE);
        Due.due("drift: BAD first", none.drift(0, 61, 0), BAD);
    }
}

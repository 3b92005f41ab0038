import java.lang.management.ManagementFactory;

/** All calls of a run live in one room: an object is small, and no call makes another one. */
public final class RoomTest {
    private static long sink = 0;

    public static void main(String[] args) {
        CamelParts x = Due.told("heir 9 99;heir 1 2;heir 5 7;heir 3 98;heir 1 97;herd 999;odd;");
        callAll(x);
        long before = allocated();
        for (int t = 0; t < 20; t++) {
            callAll(x);
        }
        Due.due("bytes made by calls (0 to 4095)", Math.max(0, allocated() - before) / 4096, 0);
        before = allocated();
        CamelParts[] many = new CamelParts[100];
        for (int t = 0; t < many.length; t++) {
            many[t] = new CamelParts();
        }
        Due.due("bytes of an object (0 to 8191)", (allocated() - before) / many.length / 8192, 0);
        Due.due("answers that are used", sink == 0 ? 1 : 0, 0);
        Due.finish();
    }

    private static long allocated() {
        return ((com.sun.management.ThreadMXBean) ManagementFactory.getThreadMXBean()).getCurrentThreadAllocatedBytes();
    }

    private static void callAll(CamelParts x) {
        String text = "heir 9 99;heir 1 2;heir 5 7;heir 3 98;heir 1 97;herd 840;odd;";
        for (int i = 0; i < text.length(); i++) {
            sink += x.feed(text.charAt(i));
        }
        sink += x.text() + x.fault() + x.end(0) + x.rule(3) + x.rule(4) + x.heir(0, 3) + x.told(0, 0) + x.sum(0) + x.over(0, 0);
        sink += x.alter(0, 0, 9) + x.lend(0) + x.lend(1) + x.share(0, 1) + x.wills(4, 0) + x.will(4, 0, 999999, 0);
        for (int kind = 0; kind < 4; kind++) {
            sink += x.judge(kind) + x.by(kind, 0) + x.of(999, 0) + x.loses(200, 0) + x.keeps(200, 0) + x.unlike(kind, (kind + 1) % 4);
            sink += x.best(0) + x.gains(0, 0) + x.wants(0, 999) + x.judges() + x.herds(0) + x.downs(0, 0) + x.ask(0) + x.drift(1, 60, 1);
        }
        sink += x.herd(12) + x.mean(3, 0, 0) + x.luck(3, 0, 1, 0) + x.see(0, 1) + x.keep(0) + x.back(0) + x.forget(0);
        sink += x.sheet(0, 0, 40) + x.lay(0, 0, 1) + x.lay(0, 1, 1) + x.dies(4) + x.read(0, 0, 0, 1) + x.torn() + x.count(4);
        sink += x.dies(0) + x.bear(1, 1);
    }
}

import java.lang.management.ManagementFactory;

/** Rule 12 of LANGUAGE.md: what a run of 512 calls makes stays small, also for the dearest calls. */
public final class RoomTest {
    private static final int CALLS = 512;
    private static final long BYTES = 100_000;
    private static final String TEXT = "contract 40 300 5 2;spot 30 9;band 0 0 0;ladder 0 2;window 6;minimum 80;miss 4;"
            + "waivers 4 0;demand 250+season*30-period;";

    public static void main(String[] args) {
        bytes("warm up", RoomTest::dearCalls);
        Checks.holds("dear calls make little", bytes("dear calls", RoomTest::dearCalls) < BYTES);
        Checks.holds("changes make little", bytes("changes", RoomTest::changes) < BYTES);
        Checks.holds("loads make little", bytes("loads", RoomTest::loads) < BYTES);
        Checks.end("RoomTest");
    }

    private static long bytes(String what, Runnable run) {
        com.sun.management.ThreadMXBean bean = (com.sun.management.ThreadMXBean) ManagementFactory.getThreadMXBean();
        long before = bean.getCurrentThreadAllocatedBytes();
        run.run();
        long made = bean.getCurrentThreadAllocatedBytes() - before;
        System.out.println(what + ": " + made + " bytes made");
        return made;
    }

    private static SupplyContract loaded(String text) {
        SupplyContract x = new SupplyContract();
        Checks.append(x, text);
        x.load(text.length());
        return x;
    }

    private static void dearCalls() {
        SupplyContract x = loaded(TEXT);
        for (int k = 0; k < 20; k++) {
            x.forecast(1 + k, x.forecastOf(1 + k) + 5 + k % 3);
        }
        long sum = 0;
        for (int k = 0; k < CALLS - 60; k++) {
            sum += k % 2 == 0 ? x.bestReserved(500) : x.bestWaiver(0);
        }
        Checks.holds("the calls answered", sum > 0);
    }

    private static void changes() {
        SupplyContract x = loaded(TEXT);
        for (int k = 0; k < CALLS / 2 - 25; k++) {
            x.forecast(1 + k % 39, k);
            x.reserve(1 + k % 39, k);
            if (k % 16 == 15) {
                x.undo();
            }
        }
        Checks.due("breaches", x.breachCount(), 20);
    }

    private static void loads() {
        SupplyContract x = new SupplyContract();
        for (int k = 0; k < CALLS; k += 8) {
            Checks.append(x, TEXT);
            Checks.due("periods", x.load(TEXT.length()), 40);
        }
    }
}

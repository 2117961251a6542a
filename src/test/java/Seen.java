import java.util.function.LongSupplier;

/** All that can be seen of an object, as a text in which two objects can be compared. */
final class Seen {
    private final SupplyContract x;
    private final StringBuilder text = new StringBuilder();

    private Seen(SupplyContract x) {
        this.x = x;
    }

    /** Answers of all methods that change nothing. */
    static String state(SupplyContract x) {
        Seen seen = new Seen(x);
        seen.lookAtContract();
        seen.lookAtPeriods();
        seen.lookAtBreaches();
        return seen.text.toString();
    }

    /** The state, the input buffer and the changes that can be undone; this looking uses the object up. */
    static String all(SupplyContract x) {
        Seen seen = new Seen(x);
        seen.text.append(state(x));
        seen.add("errorOffset", x::errorOffset);
        seen.lookAtBuffer();
        seen.lookAtChanges();
        return seen.text.toString();
    }

    private void add(String what, LongSupplier call) {
        text.append(what).append('=').append(Checks.answer(call)).append(' ');
    }

    private void lookAtContract() {
        add("periods", x::periodCount);
        add("clock", x::clock);
        add("balance", x::balance);
        add("projected", x::projected);
        add("bestReserved", () -> x.bestReserved(30));
        add("checksum", x::checksum);
        for (int lead : new int[] {0, 1, 2, 39}) {
            add("band", () -> x.bandFor(lead));
            add("smallest", () -> x.allowed(lead, 1000, false));
            add("greatest", () -> x.allowed(lead, 1000, true));
        }
        for (int excess : new int[] {1, 30, 100, 500}) {
            add("penalty", () -> x.penaltyFor(excess, 100));
        }
    }

    private void lookAtPeriods() {
        for (int p = 0; p < x.periodCount(); p++) {
            int period = p;
            text.append("| period ").append(p).append(' ');
            add("reserved", () -> x.reservedIn(period));
            add("forecast", () -> x.forecastOf(period));
            add("order", () -> x.orderOf(period));
            add("open", () -> x.openUnits(period));
            add("missed", () -> x.missedUnits(period));
            add("invoice", () -> x.invoice(period));
        }
    }

    private void lookAtBreaches() {
        add("| all", x::allBreaches);
        add("recorded", x::breachCount);
        add("left", x::waiversLeft);
        add("best", x::bestWaiving);
        add("first", () -> x.bestWaiver(0));
        for (int b = 0; b < x.breachCount(); b++) {
            int breach = b;
            text.append("| breach ").append(b).append(' ');
            add("period", () -> x.breachPeriod(breach));
            add("kind", () -> x.breachKind(breach));
            add("penalty", () -> x.breachPenalty(breach));
            add("waived", () -> Checks.bit(() -> x.isWaived(breach)));
        }
    }

    /** The text that stands in the buffer is read, so that its bytes are seen too. */
    private void lookAtBuffer() {
        int length = x.append(0, 0, 0, 0, 0);
        add("| buffer", () -> length);
        add("load", () -> x.load(Math.max(0, length - 20)));
        add("errorOffset", x::errorOffset);
        add("checksum", x::checksum);
    }

    private void lookAtChanges() {
        int left = 0;
        for (int k = 0; k < 10 && left >= 0; k++) {
            left = x.undo();
            text.append("| undo ").append(left).append(' ');
            add("checksum", x::checksum);
            add("periods", x::periodCount);
            add("left", x::waiversLeft);
            add("greatest", () -> x.allowed(1, 1000, true));
            add("penalty", () -> x.penaltyFor(30, 100));
            add("projected", x::projected);
        }
    }
}

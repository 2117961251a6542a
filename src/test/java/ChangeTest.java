/** Promises 26, 27, 31, 33 and 34: projections, reservations, undo and the checksum. */
public final class ChangeTest {
    public static void main(String[] args) {
        projecting();
        projectingIsClosing();
        bestReservation();
        bestReservationStates();
        bestReservationWithWindow();
        reserving();
        undoing();
        undoOfEachChange();
        onlyEightChanges();
        exceptionsAreNoChanges();
        undoOfLoad();
        undoOfMissedUnits();
        checksums();
        Checks.end("ChangeTest");
    }

    private static void projecting() {
        SupplyContract x = Checks.contract("contract 3 10 2 1;spot 5 9;miss 1;demand 12+2*period;");
        Checks.due("projected", x.projected(), 30 + 18 + 30 + 36 + 30 + 45 - 1);
        x.order(0);
        Checks.due("with an order", x.projected(), 10 + 30 + 36 + 30 + 45 - 1);
        x.close();
        Checks.due("only from the clock on", x.projected(), 30 + 36 + 30 + 45 - 1);
        x.forecast(2, 0);
        Checks.due("with a forecast", x.projected(), 30 + 36 + 10);
        x.reserve(2, 3);
        Checks.due("with a reservation", x.projected(), 30 + 36 + 3);
        Checks.due("on a copy", x.clock(), 1);
        Checks.due("no order is placed", x.orderOf(1), -1);
        x.close();
        x.close();
        Checks.due("after the end", x.projected(), 0);
    }

    private static void projectingIsClosing() {
        SupplyContract x = Checks.contract("contract 9 10 2 1;spot 3 9;window 2;minimum 80;miss 4;demand 3+season*7;");
        long projected = x.projected();
        long closed = 0;
        for (int p = 0; p < 9; p++) {
            Checks.due("projected in " + p, x.projected(), projected - closed);
            closed += x.close();
        }
        Checks.due("the whole", closed, projected);
    }

    private static void bestReservation() {
        SupplyContract x = Checks.contract("contract 3 10 5 2;spot 999 9;demand 20+10*period;");
        Checks.due("within the limit", x.bestReserved(500), 30);
        Checks.due("at the limit", x.bestReserved(25), 25);
        Checks.due("limit 0", x.bestReserved(0), 0);
        SupplyContract y = Checks.contract("contract 3 10 5 4;spot 999 9;demand 20;");
        Checks.due("equal costs: the smallest level", y.bestReserved(500), 0);
        SupplyContract w = Checks.contract("contract 3 10 5 2;spot 999 9;demand 1;");
        Checks.due("level 1", w.bestReserved(500), 1);
        SupplyContract v = Checks.contract("contract 2 0 0 1;spot 999 3;demand 50-50*period;");
        Checks.due("the current period keeps its own", v.bestReserved(500), 0);
        SupplyContract z = Checks.contract("contract 3 10 5 3;spot 999 9;demand 500;");
        Checks.due("the greatest level", z.bestReserved(500), 500);
        long before = z.checksum();
        Checks.due("again", z.bestReserved(499), 499);
        Checks.due("nothing changes", z.checksum(), before);
        Checks.due("undo", z.undo(), 0);
    }

    private static void bestReservationStates() {
        SupplyContract x = Checks.contract("contract 2 10 5 2;");
        Checks.throwsArgument("negative limit", () -> x.bestReserved(-1));
        Checks.throwsArgument("too great a limit", () -> x.bestReserved(501));
        Checks.due("the last period but one", x.bestReserved(0), 0);
        x.close();
        Checks.throwsState("the last period", () -> x.bestReserved(0));
        Checks.throwsArgument("the limit first", () -> x.bestReserved(501));
        x.close();
        Checks.throwsState("after the end", () -> x.bestReserved(0));
        Checks.throwsState("no contract", () -> new SupplyContract().bestReserved(500));
        Checks.throwsArgument("no contract: the limit first", () -> new SupplyContract().bestReserved(-1));
    }

    /** Each level is tried by reserve, projected and undo. */
    private static void bestReservationWithWindow() {
        SupplyContract x = Checks.contract("contract 9 4 3 1;spot 3 9;window 2;minimum 70;miss 8;demand 3+season*7;");
        x.order(30);
        for (int p = 0; p < 8; p++) {
            int best = -1;
            long bestCosts = Long.MAX_VALUE;
            for (int level = 0; level <= 12; level++) {
                x.reserve(x.clock() + 1, level);
                long costs = x.projected();
                x.undo();
                if (costs < bestCosts) {
                    bestCosts = costs;
                    best = level;
                }
            }
            Checks.due("best level in " + p, x.bestReserved(12), best);
            x.close();
        }
    }

    private static void reserving() {
        SupplyContract x = Checks.contract("contract 5 10 5 2;");
        Checks.due("from 2 on", x.reserve(2, 20), 3);
        Checks.due("before", x.reservedIn(1), 10);
        Checks.due("first", x.reservedIn(2), 20);
        Checks.due("last", x.reservedIn(4), 20);
        Checks.due("only others count", x.reserve(1, 20), 1);
        Checks.due("none", x.reserve(1, 20), 0);
        Checks.due("the forecast stays", x.forecastOf(4), 10);
        Checks.due("the current period stays", x.reservedIn(0), 10);
        Checks.due("edges", x.reserve(4, 9999), 1);
        Checks.due("edges", x.reserve(4, 0), 1);
        Checks.throwsIndex("no such period", () -> x.reserve(5, -1));
        Checks.throwsIndex("a negative period", () -> x.reserve(-1, 5));
        Checks.throwsArgument("the capacity before the state", () -> x.reserve(0, -1));
        Checks.throwsArgument("too great a capacity", () -> x.reserve(1, 10000));
        Checks.throwsState("the current period", () -> x.reserve(0, 5));
        x.close();
        Checks.throwsState("the current period", () -> x.reserve(1, 5));
        Checks.due("the next period", x.reserve(2, 5), 3);
        for (int p = 1; p < 5; p++) {
            x.close();
        }
        Checks.throwsState("after the end", () -> x.reserve(4, 5));
        Checks.throwsIndex("no contract", () -> new SupplyContract().reserve(0, -1));
    }

    private static final String FULL = "contract 6 10 5 2;spot 3 9;band 0 10 10;ladder 0 2 50 4;window 2;minimum 80;"
            + "miss 4;waivers 2 1;demand 8+season;";

    private static void undoing() {
        SupplyContract x = new SupplyContract();
        Checks.due("nothing to undo", x.undo(), -1);
        Checks.load(x, FULL);
        x.close();
        Checks.append(x, "nonsense");
        x.load(8);
        Checks.append(x, "contract 7 1 1 1;");
        Checks.due("undo close", x.undo(), 1);
        Checks.due("clock", x.clock(), 0);
        Checks.due("the error offset stays", x.errorOffset(), 0);
        Checks.due("undo load", x.undo(), 0);
        Checks.due("no contract", x.periodCount(), 0);
        Checks.due("nothing left", x.undo(), -1);
        Checks.due("the input buffer stays", x.load(17), 7);
    }

    private static void undoOfEachChange() {
        SupplyContract x = Checks.contract(FULL);
        long[] sums = new long[8];
        sums[0] = x.checksum();
        x.forecast(2, 30);
        sums[1] = x.checksum();
        x.order(25);
        sums[2] = x.checksum();
        x.close();
        sums[3] = x.checksum();
        x.reserve(3, 7);
        sums[4] = x.checksum();
        x.waive(1);
        sums[5] = x.checksum();
        x.reserve(3, 7);
        sums[6] = x.checksum();
        Checks.due("a change without effect", sums[6], sums[5]);
        x.forecast(2, 30);
        for (int k = 6; k >= 0; k--) {
            Checks.due("undo " + k, x.undo(), k + 1);
            Checks.due("state " + k, x.checksum(), sums[k]);
        }
        Checks.due("breaches", x.allBreaches(), 0);
        Checks.due("waivers", x.waiversLeft(), 2);
        Checks.due("invoice", x.invoice(0), 0);
        Checks.due("undo load", x.undo(), 0);
        Checks.due("checksum without a contract", x.checksum(), 0);
    }

    private static void onlyEightChanges() {
        SupplyContract x = Checks.contract("contract 40 10 5 2;");
        for (int p = 0; p < 12; p++) {
            x.close();
        }
        for (int k = 7; k >= 3; k--) {
            Checks.due("undo", x.undo(), k);
        }
        Checks.due("clock", x.clock(), 7);
        x.close();
        x.forecast(20, 5);
        for (int k = 4; k >= 0; k--) {
            Checks.due("undo", x.undo(), k);
        }
        Checks.due("clock", x.clock(), 4);
        Checks.due("older changes cannot be undone", x.undo(), -1);
        Checks.due("clock", x.clock(), 4);
        x.close();
        Checks.due("undo", x.undo(), 0);
    }

    private static void exceptionsAreNoChanges() {
        SupplyContract x = Checks.contract(FULL);
        x.order(10);
        long before = x.checksum();
        Checks.throwsState("order", () -> x.order(10));
        Checks.throwsArgument("order", () -> x.order(-1));
        Checks.throwsState("forecast", () -> x.forecast(0, 1));
        Checks.throwsState("reserve", () -> x.reserve(0, 1));
        Checks.throwsIndex("waive", () -> x.waive(1));
        Checks.throwsArgument("load", () -> x.load(-1));
        Checks.due("nothing changed", x.checksum(), before);
        Checks.due("undo", x.undo(), 1);
    }

    private static void undoOfLoad() {
        SupplyContract x = Checks.contract(FULL);
        x.order(20);
        x.waive(0);
        long before = x.checksum();
        Checks.load(x, "contract 40 77 1 1;");
        x.close();
        Checks.due("undo close", x.undo(), 4);
        Checks.due("undo load", x.undo(), 3);
        Checks.due("checksum", x.checksum(), before);
        Checks.due("periods", x.periodCount(), 6);
        Checks.due("band", x.allowed(3, 100, true), 110);
        Checks.due("penalty", x.penaltyFor(50, 100), 200);
        Checks.due("waivers", x.waiversLeft(), 1);
        Checks.holds("waived", x.isWaived(0));
        Checks.due("close", x.close(), 20 + 50);
        Checks.due("open", x.openUnits(0), 10);

        Checks.load(x, "contract 3 10 1 1;band 0 0 0;ladder 0 1;waivers 1 0;demand 50;");
        x.forecast(2, 60);
        x.waive(0);
        for (int k = 0; k < 4; k++) {
            x.undo();
        }
        Checks.due("checksum with a breach", x.checksum(), before);
        Checks.due("period of the breach", x.breachPeriod(0), 0);
        Checks.due("kind of the breach", x.breachKind(0), 2);
        Checks.due("penalty of the breach", x.breachPenalty(0), 12 * 4);
        Checks.holds("still waived", x.isWaived(0));
    }

    private static void undoOfMissedUnits() {
        SupplyContract x = Checks.contract("contract 3 10 5 2;demand 30;");
        x.close();
        Checks.due("missed", x.missedUnits(0), 20);
        x.undo();
        Checks.due("no longer missed", x.missedUnits(0), 0);
        Checks.due("no invoice", x.invoice(0), 0);
        Checks.due("no order", x.orderOf(0), -1);
    }

    private static long mix(long... numbers) {
        long sum = 0;
        for (long n : numbers) {
            sum = 31 * sum + n;
        }
        return sum;
    }

    private static void checksums() {
        SupplyContract x = Checks.contract("contract 2 10 5 2;band 0 0 0;ladder 0 3;window 1;waivers 1 0;demand 4;");
        Checks.due("at first", x.checksum(), mix(0, 0, 0, 10, 4, -1, 0, 0, 10, 4, -1, 0, 0));
        x.order(16);
        Checks.due("an order", x.checksum(), mix(0, 36, 1, 10, 4, 16, 16, 0, 10, 4, -1, 0, 0, 36));
        x.forecast(1, 6);
        Checks.due("a forecast", x.checksum(), mix(0, 42, 2, 10, 4, 16, 16, 0, 10, 6, -1, 0, 0, 36, 6));
        x.waive(0);
        Checks.due("a waiver", x.checksum(), mix(0, 6, 2, 10, 4, 16, 16, 0, 10, 6, -1, 0, 0, -1, 6));
        x.close();
        Checks.due("a closing", x.checksum(), mix(1, 76, 2, 10, 4, 16, 6, 0, 10, 6, -1, 0, 0, -1, 6));
        x.close();
        Checks.due("the end", x.checksum(), mix(2, 146, 2, 10, 4, 16, 0, 0, 10, 6, 6, 0, 2, -1, 6));
    }
}

import java.util.function.IntToLongFunction;

/** The sentences of the promises 5 to 13: the periods and their accounts. */
final class PeriodPromises {
    private static final String NO_PERIOD = "Throws `IndexOutOfBoundsException` if there is no such period";

    private PeriodPromises() {
    }

    private static void noSuchPeriod(SupplyContract x, IntToLongFunction call) {
        int n = x.periodCount();
        for (int period : new int[] {-1, n, n + 1, 39, 40, 41, Integer.MIN_VALUE, Integer.MAX_VALUE}) {
            Checks.throwsIndex("period " + period + " of " + n, () -> call.applyAsLong(period));
        }
        for (int period = 0; period < n; period++) {
            Checks.holds("period " + period + " of " + n, call.applyAsLong(period) >= -1);
        }
    }

    private static SupplyContract three() {
        SupplyContract x = Checks.contract("contract 40 10 1 0;");
        Checks.load(x, "contract 3 10 1 0;");
        return x;
    }

    @Sentence(in = "Promise 5", says = "Returns the number of periods.")
    static void periodCount() {
        SupplyContract x = new SupplyContract();
        Checks.due("no contract", x.periodCount(), 0);
        Checks.load(x, "contract 2 10 1 0;");
        Checks.due("2", x.periodCount(), 2);
        x.close();
        x.close();
        Checks.due("at the end", x.periodCount(), 2);
        Checks.load(x, "contract 40 10 1 0;");
        Checks.due("40", x.periodCount(), 40);
        Checks.load(x, "contract 41 10 1 0;");
        Checks.due("after an error", x.periodCount(), 40);
        x.undo();
        Checks.due("after undo", x.periodCount(), 2);
    }

    @Sentence(in = "Promise 6", says = "Returns the clock.")
    static void clock() {
        SupplyContract x = new SupplyContract();
        Checks.due("no contract", x.clock(), 0);
        Checks.load(x, "contract 2 10 1 0;");
        Checks.due("at first", x.clock(), 0);
        x.close();
        Checks.due("after close", x.clock(), 1);
        x.close();
        Checks.due("at the end", x.clock(), 2);
        x.undo();
        Checks.due("after undo", x.clock(), 1);
    }

    @Sentence(in = "Promise 7", says = "- `period`: a period Returns its reserved capacity.")
    static void reservedIn() {
        SupplyContract x = Checks.contract("contract 4 10 1 0;");
        x.reserve(2, 0);
        x.reserve(3, 9999);
        int[] reserved = {10, 10, 0, 9999};
        for (int p = 0; p < 4; p++) {
            Checks.due("period " + p, x.reservedIn(p), reserved[p]);
        }
        x.close();
        Checks.due("a closed period", x.reservedIn(0), 10);
    }

    @Sentence(in = "Promise 7", says = NO_PERIOD)
    static void reservedInNoPeriod() {
        SupplyContract x = three();
        noSuchPeriod(x, x::reservedIn);
        SupplyContract none = new SupplyContract();
        noSuchPeriod(none, none::reservedIn);
    }

    @Sentence(in = "Promise 8", says = "- `period`: a period Returns its forecast.")
    static void forecastOf() {
        SupplyContract x = Checks.contract("contract 4 10 1 0;demand 100+period;");
        x.forecast(2, 0);
        x.forecast(3, 9999);
        int[] forecasts = {100, 101, 0, 9999};
        for (int p = 0; p < 4; p++) {
            Checks.due("period " + p, x.forecastOf(p), forecasts[p]);
        }
        x.order(7);
        x.close();
        Checks.due("a closed period", x.forecastOf(0), 100);
    }

    @Sentence(in = "Promise 8", says = NO_PERIOD)
    static void forecastOfNoPeriod() {
        SupplyContract x = three();
        noSuchPeriod(x, x::forecastOf);
        SupplyContract none = new SupplyContract();
        noSuchPeriod(none, none::forecastOf);
    }

    @Sentence(in = "Promise 9", says = "- `period`: a period Returns its order;")
    static void orderOf() {
        SupplyContract x = Checks.contract("contract 4 10 1 0;demand 100+period;");
        x.order(0);
        Checks.due("an order of 0", x.orderOf(0), 0);
        x.close();
        Checks.due("a closed period", x.orderOf(0), 0);
        x.close();
        Checks.due("the forecast", x.orderOf(1), 101);
        x.order(9999);
        Checks.due("an order of 9999", x.orderOf(2), 9999);
        x.close();
        Checks.due("an order of 9999, closed", x.orderOf(2), 9999);
    }

    @Sentence(in = "Promise 9", says = "-1 if none has been placed.")
    static void noOrder() {
        SupplyContract x = Checks.contract("contract 3 10 1 0;");
        for (int p = 0; p < 3; p++) {
            Checks.due("period " + p, x.orderOf(p), -1);
        }
        x.order(5);
        Checks.due("the next period", x.orderOf(1), -1);
        x.undo();
        Checks.due("after undo", x.orderOf(0), -1);
        x.projected();
        x.bestReserved(3);
        Checks.due("after a projection", x.orderOf(0), -1);
    }

    @Sentence(in = "Promise 9", says = NO_PERIOD)
    static void orderOfNoPeriod() {
        SupplyContract x = three();
        noSuchPeriod(x, x::orderOf);
        SupplyContract none = new SupplyContract();
        noSuchPeriod(none, none::orderOf);
    }

    @Sentence(in = "Promise 10", says = "- `period`: a period Returns the number of units of its order that have not "
        + "been delivered and are not missed;")
    static void openUnits() {
        SupplyContract x = Checks.contract("contract 4 10 1 0;spot 3 1;window 1;demand 0;");
        x.order(25);
        Checks.due("nothing delivered yet", x.openUnits(0), 25);
        x.close();
        Checks.due("10 delivered", x.openUnits(0), 15);
        x.close();
        Checks.due("10 more delivered, 3 bought, 2 missed", x.openUnits(0), 0);
        x.order(9999);
        Checks.due("the greatest order", x.openUnits(2), 9999);
    }

    @Sentence(in = "Promise 10", says = "0 if there is no order.")
    static void noOpenUnitsWithoutAnOrder() {
        SupplyContract x = Checks.contract("contract 3 10 1 0;");
        for (int p = 0; p < 3; p++) {
            Checks.due("period " + p, x.openUnits(p), 0);
        }
        x.order(5);
        x.undo();
        Checks.due("after undo", x.openUnits(0), 0);
        x.order(0);
        Checks.due("an order of 0", x.openUnits(0), 0);
    }

    @Sentence(in = "Promise 10", says = NO_PERIOD)
    static void openUnitsOfNoPeriod() {
        SupplyContract x = three();
        noSuchPeriod(x, x::openUnits);
        SupplyContract none = new SupplyContract();
        noSuchPeriod(none, none::openUnits);
    }

    @Sentence(in = "Promise 11", says = "- `period`: a period Returns the number of units of its order "
        + "that are missed.")
    static void missedUnits() {
        SupplyContract x = Checks.contract("contract 3 10 1 0;spot 3 1;window 1;demand 0;");
        Checks.due("no order", x.missedUnits(0), 0);
        x.order(25);
        Checks.due("before the window ends", x.missedUnits(0), 0);
        x.close();
        Checks.due("still before the window ends", x.missedUnits(0), 0);
        x.order(1);
        x.close();
        Checks.due("2 of 25", x.missedUnits(0), 2);
        x.order(9999);
        Checks.due("other orders", x.missedUnits(1), 0);
        x.close();
        Checks.due("at the end", x.missedUnits(2), 9999 - 9);
        Checks.due("as before", x.missedUnits(0), 2);
    }

    @Sentence(in = "Promise 11", says = NO_PERIOD)
    static void missedUnitsOfNoPeriod() {
        SupplyContract x = three();
        noSuchPeriod(x, x::missedUnits);
        SupplyContract none = new SupplyContract();
        noSuchPeriod(none, none::missedUnits);
    }

    @Sentence(in = "Promise 12", says = "- `period`: a period Returns its invoice;")
    static void invoice() {
        SupplyContract x = Checks.contract("contract 3 9999 999 99;spot 9999 999;miss 999;demand 0;");
        x.reserve(2, 0);
        x.order(9999);
        x.close();
        Checks.due("9999 units", x.invoice(0), 9999L * (999 + 99));
        x.close();
        Checks.due("no units", x.invoice(1), 9999L * 99);
        x.close();
        Checks.due("nothing", x.invoice(2), 0);
        SupplyContract y = Checks.contract("contract 2 0 0 0;window 6;miss 999;demand 9999;");
        y.close();
        Checks.due("not yet missed", y.invoice(0), 0);
        y.close();
        Checks.due("less than 0", y.invoice(1), -2 * 999L * 9999);
        Checks.due("the earlier invoice stays", y.invoice(0), 0);
    }

    @Sentence(in = "Promise 12", says = "0 if it has not been closed.")
    static void noInvoice() {
        SupplyContract x = Checks.contract("contract 3 10 5 2;");
        x.order(7);
        Checks.due("the current period", x.invoice(0), 0);
        x.close();
        Checks.due("the next period", x.invoice(1), 0);
        Checks.due("the last period", x.invoice(2), 0);
        x.undo();
        Checks.due("after undo", x.invoice(0), 0);
        x.projected();
        x.bestReserved(3);
        Checks.due("after a projection", x.invoice(0), 0);
    }

    @Sentence(in = "Promise 12", says = NO_PERIOD)
    static void invoiceOfNoPeriod() {
        SupplyContract x = three();
        noSuchPeriod(x, x::invoice);
        SupplyContract none = new SupplyContract();
        noSuchPeriod(none, none::invoice);
    }

    @Sentence(in = "Promise 13", says = "Returns the sum of the invoices of all closed periods")
    static void balanceOfInvoices() {
        SupplyContract x = Checks.contract("contract 40 9999 999 99;spot 9999 999;miss 999;");
        Checks.due("no closed period", x.balance(), 0);
        x.order(5);
        Checks.due("an order is no invoice", x.balance(), 0);
        x.undo();
        for (int p = 1; p <= 40; p++) {
            x.close();
            Checks.due(p + " closed periods", x.balance(), p * 9999L * (999 + 99));
        }
        SupplyContract y = Checks.contract("contract 2 0 0 0;miss 999;demand 9999;");
        y.close();
        Checks.due("less than 0", y.balance(), -999L * 9999);
        y.close();
        Checks.due("less than 0, twice", y.balance(), -2 * 999L * 9999);
        Checks.due("no contract", new SupplyContract().balance(), 0);
    }

    @Sentence(in = "Promise 13", says = "plus the penalties of all breaches that are not waived.")
    static void balanceOfPenalties() {
        SupplyContract x = Checks.contract("contract 4 10 2 1;band 0 0 0;ladder 0 5;waivers 4 0;");
        x.forecast(1, 14);
        Checks.due("a penalty before any invoice", x.balance(), 20);
        x.close();
        Checks.due("an invoice, too", x.balance(), 20 + 30);
        x.order(15);
        Checks.due("two penalties", x.balance(), 20 + 30 + 5);
        x.waive(0);
        Checks.due("one of them waived", x.balance(), 30 + 5);
        x.waive(1);
        Checks.due("both waived", x.balance(), 30);
        x.undo();
        Checks.due("one of them again", x.balance(), 30 + 5);
        SupplyContract y = Checks.contract("contract 2 0 0 0;band 0 0 0;ladder 0 999;demand 0;");
        for (int k = 0; k < 21; k++) {
            y.forecast(1, k % 2 == 0 ? 9999 : 0);
        }
        Checks.due("twenty of the greatest penalties", y.balance(), 20L * 999 * 9999);
    }
}

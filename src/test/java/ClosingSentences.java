/** The sentences of "A period is closed in these steps". */
final class ClosingSentences {
    private static final String IN = "A period is closed in these steps";

    private ClosingSentences() {
    }

    @Sentence(in = IN, says = "(1) If no order has been placed for the current period, "
        + "an order of the forecast quantity is placed.")
    static void theForecastIsOrdered() {
        SupplyContract x = Checks.contract("contract 5 10 1 0;demand 6*period;");
        x.forecast(2, 7);
        x.close();
        Checks.due("a forecast of 0", x.orderOf(0), 0);
        x.order(0);
        x.close();
        Checks.due("an order of 0 stays", x.orderOf(1), 0);
        x.close();
        Checks.due("a revised forecast", x.orderOf(2), 7);
        x.order(9999);
        x.close();
        Checks.due("an order of 9999 stays", x.orderOf(3), 9999);
        Checks.due("the next period has none yet", x.orderOf(4), -1);
        x.close();
        Checks.due("the last period", x.orderOf(4), 24);
    }

    @Sentence(in = IN, says = "(It is no breach.)")
    static void theForecastIsNoBreach() {
        SupplyContract x = Checks.contract("contract 3 10 1 0;band 0 0 0;ladder 0 9;demand 9999*period;");
        for (int p = 0; p < 3; p++) {
            x.close();
            Checks.due("breaches", x.allBreaches(), 0);
        }
    }

    @Sentence(in = IN, says = "(2) The undelivered units of the orders of the periods from clock - window to clock "
        + "(only of periods from 0 on) are delivered from the reserved capacity of the current period,")
    static void ordersOfTheWindowAreDelivered() {
        SupplyContract x = Checks.contract("contract 9 0 1 0;window 6;demand 0;");
        x.reserve(6, 100);
        int[] orders = {1, 2, 4, 8, 16, 32, 64};
        for (int p = 0; p < 6; p++) {
            x.order(orders[p]);
            Checks.due("no capacity in " + p, x.close(), 0);
            Checks.due("open in " + p, x.openUnits(p), orders[p]);
        }
        x.order(orders[6]);
        Checks.due("100 units of the periods 0 to 6", x.close(), 100);
        for (int p = 0; p < 6; p++) {
            Checks.due("delivered of " + p, x.openUnits(p), 0);
            Checks.due("missed of " + p, x.missedUnits(p), 0);
        }
        Checks.due("the rest of 6", x.openUnits(6), 27);
        Checks.due("in the next period", x.close(), 27);
    }

    @Sentence(in = IN, says = "The undelivered units of the orders of the periods from clock - window to clock")
    static void anOrderBeforeTheWindowIsNotDelivered() {
        SupplyContract x = Checks.contract("contract 9 0 1 0;window 2;demand 0;");
        x.reserve(3, 100);
        x.order(5);
        x.close();
        x.order(6);
        x.close();
        x.close();
        Checks.due("period 0 came before its end", x.missedUnits(0), 5);
        Checks.due("period 1 is delivered in 3, period 0 is not", x.close(), 6);
        Checks.due("period 0", x.missedUnits(0), 5);
        Checks.due("period 1", x.missedUnits(1), 0);
    }

    @Sentence(in = IN, says = "(only of periods from 0 on)")
    static void noOrdersBeforePeriod0() {
        for (int window = 0; window <= 6; window++) {
            SupplyContract x = Checks.contract("contract 2 5 1 0;window " + window + ";demand 4;");
            Checks.due("window " + window + " in period 0", x.close(), 4);
            Checks.due("window " + window + " in period 1", x.close(), 4);
        }
    }

    @Sentence(in = IN, says = "those of the earliest period first,")
    static void theEarliestFirst() {
        SupplyContract x = Checks.contract("contract 5 0 1 0;window 3;demand 0;");
        x.reserve(2, 7);
        x.order(5);
        x.close();
        x.order(4);
        x.close();
        x.order(3);
        Checks.due("7 units", x.close(), 7);
        Checks.due("all of period 0", x.openUnits(0), 0);
        Checks.due("then of period 1", x.openUnits(1), 2);
        Checks.due("none of period 2", x.openUnits(2), 3);
    }

    @Sentence(in = IN, says = "until the capacity is used up or everything has been delivered.")
    static void untilUsedUpOrDelivered() {
        int[] orders = {9, 10, 11};
        for (int order : orders) {
            SupplyContract x = Checks.contract("contract 3 10 1 0;window 1;demand 0;");
            x.order(order);
            Checks.due("order " + order, x.close(), Math.min(order, 10));
            Checks.due("open of " + order, x.openUnits(0), Math.max(0, order - 10));
        }
        SupplyContract y = Checks.contract("contract 3 10 1 0;demand 0;");
        y.order(0);
        Checks.due("nothing to deliver", y.close(), 0);
        y.order(15);
        Checks.due("capacity that was not used is gone", y.close(), 10);
        SupplyContract z = Checks.contract("contract 3 0 1 0;window 1;");
        z.order(3);
        Checks.due("no capacity", z.close(), 0);
        Checks.due("all are open", z.openUnits(0), 3);
    }

    @Sentence(in = IN, says = "(3) The undelivered units of the order of period clock - window "
        + "(if this is at least 0) are delivered from the spot market,")
    static void theSpotMarketForTheDueOrder() {
        for (int window = 0; window <= 6; window++) {
            SupplyContract x = Checks.contract("contract 9 0 0 0;spot 100 1;window " + window + ";demand 0;");
            x.order(5);
            for (int p = 0; p < window; p++) {
                Checks.due("window " + window + ", period " + p, x.close(), 0);
                Checks.due("open", x.openUnits(0), 5);
                x.order(7);
            }
            Checks.due("window " + window + ": only the order of period 0", x.close(), 5);
            Checks.due("open", x.openUnits(0), 0);
            Checks.due("missed", x.missedUnits(0), 0);
            if (window > 0) {
                Checks.due("the order of period 1 is still open", x.openUnits(1), 7);
                Checks.due("and bought one period later", x.close(), 7);
            }
        }
    }

    @Sentence(in = IN, says = "The undelivered units of the order of period clock - window")
    static void onlyUndeliveredUnitsAreBought() {
        SupplyContract x = Checks.contract("contract 3 10 0 0;spot 100 1;window 1;demand 0;");
        x.order(25);
        x.close();
        Checks.due("20 of them were delivered", x.close(), 5);
    }

    @Sentence(in = IN, says = "at most the spot limit.")
    static void atMostTheSpotLimit() {
        int[] orders = {6, 7, 8};
        for (int order : orders) {
            SupplyContract x = Checks.contract("contract 2 0 0 0;spot 7 1;");
            x.order(order);
            Checks.due("order " + order, x.close(), Math.min(order, 7));
            Checks.due("missed of " + order, x.missedUnits(0), Math.max(0, order - 7));
        }
    }

    @Sentence(in = IN, says = "The rest of them are missed: they cannot be delivered any more.")
    static void theRestIsMissed() {
        SupplyContract x = Checks.contract("contract 4 0 1 0;spot 7 1;window 1;demand 0;");
        x.reserve(2, 1000);
        x.order(20);
        x.close();
        Checks.due("still open", x.openUnits(0), 20);
        x.close();
        Checks.due("not open any more", x.openUnits(0), 0);
        Checks.due("missed", x.missedUnits(0), 13);
        Checks.due("not delivered, though there is capacity and a spot market", x.close(), 0);
        Checks.due("still missed", x.missedUnits(0), 13);
        x.close();
        Checks.due("missed once only", x.missedUnits(0), 13);
    }

    @Sentence(in = IN, says = "(4) The invoice of the period is the sum of:")
    static void theInvoiceIsASum() {
        SupplyContract x = Checks.contract("contract 3 100 11 3;spot 20 17;window 1;minimum 90;miss 5;demand 0;");
        x.order(230);
        Checks.due("fee and unit price", x.close(), 3 * 100 + 11 * 100);
        x.order(40);
        Checks.due("all addends", x.close(), 3 * 100 + 11 * 100 + 17 * 20 + 11 * (90 - 40) - 5 * 10);
        Checks.due("the invoice", x.invoice(1), 300 + 1100 + 340 + 550 - 50);
        Checks.due("the last period", x.close(), 300 + 11 * 40 + 11 * 90);
    }

    @Sentence(in = IN, says = "the reservation fee times its reserved capacity;")
    static void theFeeForTheReservedCapacity() {
        SupplyContract x = Checks.contract("contract 3 9999 0 99;demand 0;");
        x.reserve(1, 0);
        x.reserve(2, 7);
        Checks.due("9999", x.close(), 99 * 9999);
        Checks.due("0", x.close(), 0);
        Checks.due("its own, not the one at first", x.close(), 99 * 7);
    }

    @Sentence(in = IN, says = "the unit price times the number of units delivered in step (2);")
    static void theUnitPriceForDeliveredUnits() {
        SupplyContract x = Checks.contract("contract 4 9999 999 0;window 1;demand 0;");
        x.reserve(1, 10);
        x.order(9999);
        Checks.due("9999", x.close(), 999 * 9999);
        x.order(12);
        Checks.due("10 of 12", x.close(), 999 * 10);
        x.order(3);
        Checks.due("2 of an earlier order and 3", x.close(), 999 * 5);
        Checks.due("none", x.close(), 0);
    }

    @Sentence(in = IN, says = "the spot price times the number of units delivered in step (3);")
    static void theSpotPriceForBoughtUnits() {
        SupplyContract x = Checks.contract("contract 3 0 3 0;spot 9999 999;demand 0;");
        x.order(9999);
        Checks.due("9999, without the unit price", x.close(), 999 * 9999);
        x.order(1);
        Checks.due("1", x.close(), 999);
        Checks.due("0", x.close(), 0);
    }

    @Sentence(in = IN, says = "the unit price times the shortfall, which is the number of units by which the order "
        + "of the period is less than (reserved capacity of the period) * minimum / 100")
    static void theUnitPriceForTheShortfall() {
        SupplyContract x = Checks.contract("contract 4 15 4 0;minimum 50;window 1;demand 0;");
        x.order(0);
        Checks.due("7 of 7", x.close(), 4 * 7);
        x.order(6);
        Checks.due("1 of 7", x.close(), 4 * 6 + 4 * 1);
        x.order(21);
        x.close();
        x.order(0);
        Checks.due("the order counts, not what is delivered", x.close(), 4 * 6 + 4 * 7);
        SupplyContract y = Checks.contract("contract 3 10 4 0;minimum 100;demand 0;");
        y.reserve(1, 9999);
        y.reserve(2, 30);
        Checks.due("the capacity of period 0", y.close(), 4 * 10);
        Checks.due("the capacity of period 1", y.close(), 4 * 9999);
        Checks.due("the capacity of period 2", y.close(), 4 * 30);
    }

    @Sentence(in = IN, says = "(0 if it is not less);")
    static void noShortfall() {
        SupplyContract x = Checks.contract("contract 3 15 4 0;minimum 50;demand 0;");
        x.order(7);
        Checks.due("equal", x.close(), 4 * 7);
        x.order(8);
        Checks.due("more", x.close(), 4 * 8);
        x.order(9999);
        Checks.due("far more", x.close(), 4 * 15);
    }

    @Sentence(in = IN, says = "minus the miss price times the number of missed units.")
    static void minusTheMissPrice() {
        SupplyContract x = Checks.contract("contract 3 2 3 0;miss 7;demand 0;");
        x.order(2);
        Checks.due("none", x.close(), 6);
        x.order(3);
        Checks.due("1", x.close(), 6 - 7);
        x.order(9999);
        Checks.due("9997: less than 0", x.close(), 6 - 7 * 9997);
    }

    @Sentence(in = IN, says = "(5) The clock increases by 1.")
    static void theClockIncreases() {
        SupplyContract x = Checks.contract("contract 2 2 3 0;");
        Checks.due("at first", x.clock(), 0);
        x.close();
        Checks.due("once", x.clock(), 1);
        x.close();
        Checks.due("at the end", x.clock(), 2);
    }

    @Sentence(in = IN,
        says = "If the contract has ended then, all undelivered units of all orders are missed;")
    static void theEndMissesEverything() {
        SupplyContract x = Checks.contract("contract 3 10 1 0;spot 100 1;window 6;demand 20;");
        x.close();
        x.close();
        Checks.due("open before the end: period 0", x.openUnits(0), 0);
        Checks.due("open before the end: period 1", x.openUnits(1), 20);
        Checks.due("missed before the end", x.missedUnits(1), 0);
        x.close();
        int[] missed = {0, 10, 20};
        for (int p = 0; p < 3; p++) {
            Checks.due("open of " + p, x.openUnits(p), 0);
            Checks.due("missed of " + p, x.missedUnits(p), missed[p]);
        }
        SupplyContract y = Checks.contract("contract 3 0 0 0;spot 100 1;window 1;demand 20;");
        y.close();
        y.close();
        Checks.due("only the order that is due is bought", y.close(), 20);
        Checks.due("the due order", y.missedUnits(1), 0);
        Checks.due("the last order, though the spot market has more", y.missedUnits(2), 20);
    }

    @Sentence(in = IN,
        says = "the miss price times their number is subtracted from the invoice of the last period.")
    static void theEndIsCredited() {
        SupplyContract x = Checks.contract("contract 3 10 1 0;window 2;miss 3;demand 25;");
        Checks.due("period 0", x.close(), 10);
        Checks.due("period 1", x.close(), 10);
        // Order 0 is due in the last period: 5 of it are delivered from 10, then 5 of order 1.
        Checks.due("period 2: 20 and 25 units", x.close(), 10 - 3 * 45);
        Checks.due("invoice of the last period", x.invoice(2), 10 - 3 * 45);
        Checks.due("other invoices stay", x.invoice(1), 10);
        SupplyContract y = Checks.contract("contract 2 0 1 0;window 1;miss 3;demand 5+period;");
        Checks.due("nothing is due", y.close(), 0);
        Checks.due("the due order in step (3), the other one at the end", y.close(), -3 * 5 - 3 * 6);
    }
}

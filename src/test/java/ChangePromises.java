import java.math.BigInteger;
import java.util.ArrayList;
import java.util.Arrays;
import java.util.List;

/** The sentences of the promises 28 to 34: forecast, order, close, reserve, waive, undo and checksum. */
final class ChangePromises {
    private static final int[] WRONG_UNITS = {-1, 10000, Integer.MIN_VALUE, Integer.MAX_VALUE};
    private static final int[] WRONG_PERIODS = {-1, 4, 5, 39, 40, Integer.MIN_VALUE, Integer.MAX_VALUE};
    private static final String TEXT = "contract 4 100 1 0;band 0 0 0;band 2 10 20;ladder 0 2 10 3;waivers 2 1;";

    private ChangePromises() {
    }

    private static SupplyContract closed(String text, int periods) {
        SupplyContract x = Checks.contract(text);
        for (int p = 0; p < periods; p++) {
            x.close();
        }
        return x;
    }

    @Sentence(in = "Promise 28", says = "Revises the forecast of a later period.")
    static void forecastRevises() {
        SupplyContract x = Checks.contract(TEXT);
        x.forecast(2, 105);
        Checks.due("its forecast", x.forecastOf(2), 105);
        Checks.due("the one before", x.forecastOf(1), 100);
        Checks.due("the one after", x.forecastOf(3), 100);
        Checks.due("its capacity", x.reservedIn(2), 100);
        Checks.due("no order", x.orderOf(2), -1);
        x.forecast(2, 106);
        Checks.due("once more", x.forecastOf(2), 106);
    }

    @Sentence(in = "Promise 28", says = "The band for the lead period - clock applies,")
    static void theLeadOfAForecast() {
        SupplyContract x = Checks.contract(TEXT);
        Checks.due("lead 1", x.forecast(1, 101), 2);
        Checks.due("lead 2", x.forecast(2, 120), 0);
        Checks.due("lead 3", x.forecast(3, 90), 0);
        x.close();
        Checks.due("lead 1 after close", x.forecast(2, 121), 2);
        Checks.due("lead 2 after close", x.forecast(3, 99), 0);
        x.undo();
        x.undo();
        x.undo();
        Checks.due("lead 2 again after undo", x.forecast(2, 121), 0);
        SupplyContract y = Checks.contract("contract 40 100 1 0;band 39 0 0;ladder 0 1;");
        Checks.due("lead 38", y.forecast(38, 0), 0);
        Checks.due("lead 39", y.forecast(39, 99), 1);
    }

    @Sentence(in = "Promise 28", says = "with the forecast before the revision.")
    static void theForecastBeforeTheRevision() {
        SupplyContract x = Checks.contract(TEXT);
        Checks.due("100 to 120", x.forecast(2, 120), 0);
        Checks.due("120 to 144", x.forecast(2, 144), 0);
        Checks.due("144 to 173: 172 is allowed", x.forecast(2, 173), 2);
        Checks.due("173 to 100: 156 is allowed", x.forecast(2, 100), 56 * 3);
        Checks.due("100 to 0: 90 is allowed", x.forecast(2, 0), 90 * 3);
        Checks.due("0 to 1: 0 is allowed", x.forecast(2, 1), 3);
    }

    @Sentence(in = "Promise 28", says = "A quantity outside the band is accepted, too, but it is a breach of kind 1 "
        + "of that period.")
    static void aForecastOutsideTheBand() {
        SupplyContract x = Checks.contract(TEXT);
        x.forecast(3, 9999);
        Checks.due("accepted", x.forecastOf(3), 9999);
        Checks.due("a breach", x.breachCount(), 1);
        Checks.due("of kind 1", x.breachKind(0), 1);
        Checks.due("of that period", x.breachPeriod(0), 3);
        x.forecast(2, 90);
        x.forecast(2, 108);
        Checks.due("inside the band there is none", x.allBreaches(), 1);
        x.forecast(1, 0);
        Checks.due("accepted below the band", x.forecastOf(1), 0);
        Checks.due("another breach", x.breachPeriod(1), 1);
    }

    @Sentence(in = "Promise 28", says = "- `period`: a period after the current one")
    static void forecastOfLaterPeriods() {
        SupplyContract x = Checks.contract(TEXT);
        Checks.throwsState("the current one", () -> x.forecast(0, 100));
        Checks.due("the next one", x.forecast(1, 100), 0);
        Checks.due("the last one", x.forecast(3, 100), 0);
        SupplyContract y = closed(TEXT, 2);
        Checks.throwsState("the current one after two", () -> y.forecast(2, 100));
        Checks.due("the next one after two", y.forecast(3, 100), 0);
    }

    @Sentence(in = "Promise 28", says = "- `quantity`: 0 to 9999")
    static void theQuantityOfAForecast() {
        SupplyContract x = Checks.contract(TEXT);
        x.forecast(1, 0);
        Checks.due("0", x.forecastOf(1), 0);
        x.forecast(1, 9999);
        Checks.due("9999", x.forecastOf(1), 9999);
    }

    @Sentence(in = "Promise 28", says = "Returns the penalty of the breach; 0 if there is no breach, "
        + "or if it is only counted.")
    static void forecastAnswersThePenalty() {
        SupplyContract x = Checks.contract(TEXT);
        Checks.due("no breach", x.forecast(1, 100), 0);
        Checks.due("a breach of 9 percent", x.forecast(1, 109), 18);
        Checks.due("a breach of 50 percent", x.forecast(1, 164), 55 * 3);
        for (int k = 3; k <= 20; k++) {
            Checks.due("breach " + k, x.forecast(1, 162 + k), 2);
        }
        Checks.due("only counted", x.forecast(1, 9999), 0);
        Checks.due("only counted again", x.forecast(2, 0), 0);
        Checks.due("all", x.allBreaches(), 22);
        SupplyContract y = Checks.contract("contract 2 100 1 0;band 0 0 0;ladder 10 3;");
        Checks.due("a breach without a penalty", y.forecast(1, 109), 0);
        Checks.due("it is recorded", y.breachCount(), 1);
    }

    @Sentence(in = "Promise 28", says = "Throws `IndexOutOfBoundsException` if there is no such period")
    static void forecastOfNoPeriod() {
        SupplyContract x = Checks.contract(TEXT);
        for (int period : WRONG_PERIODS) {
            Checks.throwsIndex("period " + period, () -> x.forecast(period, 100));
        }
        Checks.throwsIndex("no contract", () -> new SupplyContract().forecast(0, 100));
        Checks.throwsIndex("no contract, period 1", () -> new SupplyContract().forecast(1, 100));
    }

    @Sentence(in = "Promise 28", says = "Throws `IllegalArgumentException` if quantity is out of range")
    static void forecastOfWrongQuantities() {
        SupplyContract x = Checks.contract(TEXT);
        for (int units : WRONG_UNITS) {
            Checks.throwsArgument("quantity " + units, () -> x.forecast(1, units));
            Checks.throwsArgument("quantity " + units + " of the last period", () -> x.forecast(3, units));
        }
    }

    @Sentence(in = "Promise 28", says = "Throws `IllegalStateException` if the period is not after the current one")
    static void forecastOfNoLaterPeriod() {
        for (int clock = 0; clock <= 4; clock++) {
            SupplyContract x = closed(TEXT, clock);
            for (int p = 0; p < 4; p++) {
                int period = p;
                if (p <= clock) {
                    Checks.throwsState("period " + p + " at " + clock, () -> x.forecast(period, 100));
                } else {
                    Checks.due("period " + p + " at " + clock, x.forecast(p, 100), 0);
                }
            }
        }
    }

    @Sentence(in = "Promise 29", says = "Places the order of the current period.")
    static void orderPlaces() {
        SupplyContract x = Checks.contract(TEXT);
        x.order(100);
        Checks.due("its order", x.orderOf(0), 100);
        Checks.due("its open units", x.openUnits(0), 100);
        Checks.due("its forecast", x.forecastOf(0), 100);
        Checks.due("no other order", x.orderOf(1), -1);
        Checks.due("clock", x.clock(), 0);
        x.close();
        x.order(7);
        Checks.due("the next order", x.orderOf(1), 7);
        Checks.due("the first order", x.orderOf(0), 100);
    }

    @Sentence(in = "Promise 29", says = "The band for the lead 0 applies, with the forecast of the period.")
    static void theBandOfAnOrder() {
        SupplyContract x = Checks.contract("contract 4 1 1 0;band 0 10 20;band 1 0 0;ladder 0 1;demand 100+100*period;");
        Checks.due("100: 90 to 120", x.order(121), 1);
        x.forecast(2, 400);
        x.close();
        Checks.due("200: 180 to 240", x.order(240), 0);
        x.close();
        Checks.due("400, revised: 360 to 480", x.order(358), 2);
        x.close();
        Checks.due("400: 360 to 480", x.order(480), 0);
        SupplyContract y = Checks.contract("contract 4 100 1 0;band 1 0 0;ladder 0 1;");
        Checks.due("no band for the lead 0", y.order(9999), 0);
        Checks.due("no breach", y.allBreaches(), 0);
    }

    @Sentence(in = "Promise 29", says = "A quantity outside the band is accepted, too, but it is a breach of kind 2.")
    static void anOrderOutsideTheBand() {
        SupplyContract x = closed(TEXT, 1);
        x.order(9999);
        Checks.due("accepted", x.orderOf(1), 9999);
        Checks.due("a breach", x.breachCount(), 1);
        Checks.due("of kind 2", x.breachKind(0), 2);
        Checks.due("of the current period", x.breachPeriod(0), 1);
        x.close();
        x.order(0);
        Checks.due("accepted below the band", x.orderOf(2), 0);
        Checks.due("another breach", x.breachPeriod(1), 2);
        x.close();
        x.order(100);
        Checks.due("inside the band there is none", x.allBreaches(), 2);
    }

    @Sentence(in = "Promise 29", says = "- `quantity`: 0 to 9999")
    static void theQuantityOfAnOrder() {
        SupplyContract x = Checks.contract(TEXT);
        x.order(0);
        Checks.due("0", x.orderOf(0), 0);
        x.undo();
        x.order(9999);
        Checks.due("9999", x.orderOf(0), 9999);
    }

    @Sentence(in = "Promise 29", says = "Returns the penalty of the breach; 0 if there is no breach, "
        + "or if it is only counted.")
    static void orderAnswersThePenalty() {
        Checks.due("no breach", Checks.contract(TEXT).order(100), 0);
        Checks.due("a breach of 9 percent", Checks.contract(TEXT).order(109), 18);
        Checks.due("a breach of 100 percent", Checks.contract(TEXT).order(0), 300);
        for (int before = 19; before <= 21; before++) {
            SupplyContract x = Checks.contract(TEXT);
            for (int k = 1; k <= before; k++) {
                x.forecast(1, 100 + k);
            }
            Checks.due("after " + before + " breaches", x.order(101), before < 20 ? 2 : 0);
            Checks.due("all after " + before + " breaches", x.allBreaches(), before + 1);
        }
        SupplyContract y = Checks.contract("contract 2 100 1 0;band 0 0 0;ladder 10 3;");
        Checks.due("a breach without a penalty", y.order(109), 0);
        Checks.due("it is recorded", y.breachCount(), 1);
    }

    @Sentence(in = "Promise 29", says = "Throws `IllegalArgumentException` if quantity is out of range")
    static void orderOfWrongQuantities() {
        SupplyContract x = Checks.contract(TEXT);
        for (int units : WRONG_UNITS) {
            Checks.throwsArgument("quantity " + units, () -> x.order(units));
        }
        Checks.due("no order has been placed", x.orderOf(0), -1);
    }

    @Sentence(in = "Promise 29", says = "Throws `IllegalStateException` if there is no contract, if it has ended, "
        + "or if the order has been placed")
    static void noOrderIsPossible() {
        Checks.throwsState("no contract", () -> new SupplyContract().order(0));
        SupplyContract undone = Checks.contract(TEXT);
        undone.undo();
        Checks.throwsState("no contract after undo", () -> undone.order(0));
        SupplyContract ended = closed(TEXT, 4);
        Checks.throwsState("it has ended", () -> ended.order(0));
        SupplyContract full = closed("contract 40 1 1 1;", 40);
        Checks.throwsState("it has ended after 40 periods", () -> full.order(0));
        SupplyContract placed = closed(TEXT, 3);
        placed.order(0);
        Checks.throwsState("an order of 0 has been placed", () -> placed.order(1));
        Checks.throwsState("the same order once more", () -> placed.order(0));
        placed.undo();
        Checks.due("the order has been undone", placed.order(100), 0);
    }

    @Sentence(in = "Promise 30", says = "Closes the current period.")
    static void closeCloses() {
        SupplyContract x = Checks.contract("contract 2 10 5 2;demand 7;");
        x.close();
        Checks.due("clock", x.clock(), 1);
        Checks.due("order", x.orderOf(0), 7);
        Checks.due("open", x.openUnits(0), 0);
        Checks.due("the next order", x.orderOf(1), -1);
        x.close();
        Checks.due("clock at the end", x.clock(), 2);
        Checks.due("the last order", x.orderOf(1), 7);
    }

    @Sentence(in = "Promise 30", says = "Returns its invoice.")
    static void closeAnswersTheInvoice() {
        SupplyContract x = Checks.contract("contract 3 10 5 2;window 1;miss 7;demand 7+9*period;");
        long[] invoices = {20 + 35, 20 + 50, 20 + 50 - 7 * (25 - 4)};
        for (int p = 0; p < 3; p++) {
            Checks.due("close in " + p, x.close(), invoices[p]);
            Checks.due("invoice of " + p, x.invoice(p), invoices[p]);
        }
        SupplyContract y = Checks.contract("contract 2 9999 999 99;demand 9999;");
        Checks.due("a great invoice", y.close(), 9999L * (999 + 99));
    }

    @Sentence(in = "Promise 30",
        says = "Throws `IllegalStateException` if there is no contract, or if it has ended")
    static void nothingToClose() {
        Checks.throwsState("no contract", () -> new SupplyContract().close());
        SupplyContract undone = Checks.contract(TEXT);
        undone.undo();
        Checks.throwsState("no contract after undo", undone::close);
        for (int n : new int[] {2, 40}) {
            SupplyContract x = closed("contract " + n + " 10 5 2;", n - 1);
            Checks.due("the last period of " + n, x.close(), 20 + 50);
            Checks.throwsState("the end of " + n, x::close);
            x.undo();
            Checks.due("the last period again", x.close(), 20 + 50);
        }
    }

    @Sentence(in = "Promise 31", says = "Renegotiates the reserved capacity of all periods from a period on.")
    static void reserveFromAPeriodOn() {
        for (int from = 1; from < 4; from++) {
            SupplyContract x = Checks.contract(TEXT);
            x.reserve(from, 7);
            for (int p = 0; p < 4; p++) {
                Checks.due("capacity of " + p + " from " + from, x.reservedIn(p), p < from ? 100 : 7);
                Checks.due("forecast of " + p + " from " + from, x.forecastOf(p), 100);
            }
        }
        SupplyContract y = Checks.contract("contract 40 100 1 0;");
        y.reserve(39, 7);
        Checks.due("the last of 40", y.reservedIn(39), 7);
        Checks.due("the one before", y.reservedIn(38), 100);
    }

    @Sentence(in = "Promise 31", says = "- `period`: a period after the current one")
    static void reserveOfLaterPeriods() {
        SupplyContract x = closed(TEXT, 1);
        Checks.throwsState("the current one", () -> x.reserve(1, 7));
        Checks.due("the next one", x.reserve(2, 7), 2);
        Checks.due("the last one", x.reserve(3, 8), 1);
    }

    @Sentence(in = "Promise 31", says = "- `reserved`: 0 to 9999")
    static void theReservedCapacity() {
        SupplyContract x = Checks.contract(TEXT);
        x.reserve(1, 0);
        Checks.due("0", x.reservedIn(1), 0);
        x.reserve(1, 9999);
        Checks.due("9999", x.reservedIn(1), 9999);
    }

    @Sentence(in = "Promise 31",
        says = "Returns the number of periods whose reserved capacity has another value than before.")
    static void reserveAnswersTheNumberOfPeriods() {
        SupplyContract x = Checks.contract("contract 40 100 1 0;");
        Checks.due("none", x.reserve(1, 100), 0);
        Checks.due("one", x.reserve(39, 7), 1);
        Checks.due("all but the last", x.reserve(20, 7), 19);
        Checks.due("all but the first and those of 7", x.reserve(1, 7), 19);
        Checks.due("none again", x.reserve(1, 7), 0);
        Checks.due("all but the first", x.reserve(1, 100), 39);
        x.undo();
        Checks.due("after undo", x.reserve(1, 8), 39);
    }

    @Sentence(in = "Promise 31", says = "Throws `IndexOutOfBoundsException` if there is no such period")
    static void reserveOfNoPeriod() {
        SupplyContract x = Checks.contract(TEXT);
        for (int period : WRONG_PERIODS) {
            Checks.throwsIndex("period " + period, () -> x.reserve(period, 7));
        }
        Checks.throwsIndex("no contract", () -> new SupplyContract().reserve(0, 7));
        Checks.throwsIndex("no contract, period 1", () -> new SupplyContract().reserve(1, 7));
    }

    @Sentence(in = "Promise 31", says = "Throws `IllegalArgumentException` if reserved is out of range")
    static void reserveOfWrongCapacities() {
        SupplyContract x = Checks.contract(TEXT);
        for (int units : WRONG_UNITS) {
            Checks.throwsArgument("capacity " + units, () -> x.reserve(1, units));
            Checks.throwsArgument("capacity " + units + " of the last period", () -> x.reserve(3, units));
        }
    }

    @Sentence(in = "Promise 31", says = "Throws `IllegalStateException` if the period is not after the current one")
    static void reserveOfNoLaterPeriod() {
        for (int clock = 0; clock <= 4; clock++) {
            SupplyContract x = closed(TEXT, clock);
            for (int p = 0; p < 4; p++) {
                int period = p;
                if (p <= clock) {
                    Checks.throwsState("period " + p + " at " + clock, () -> x.reserve(period, 7));
                } else {
                    Checks.due("period " + p + " at " + clock, x.reserve(p, 7 + p), 4 - p);
                }
            }
        }
    }

    @Sentence(in = "Promise 32", says = "Waives a breach. - `breach`: index of a recorded breach Returns its penalty.")
    static void waiveWaives() {
        SupplyContract x = Checks.contract(TEXT);
        x.forecast(1, 109);
        x.forecast(3, 130);
        x.forecast(2, 121);
        Checks.due("the second of three", x.waive(1), 30);
        Checks.holds("waived", x.isWaived(1));
        Checks.holds("not the first", !x.isWaived(0));
        Checks.holds("not the third", !x.isWaived(2));
        Checks.due("waivers", x.waiversLeft(), 1);
        Checks.due("balance", x.balance(), 18 + 2);
        Checks.due("still recorded", x.breachCount(), 3);
        SupplyContract y = Checks.contract("contract 4 100 1 0;band 0 0 0;waivers 1 0;");
        y.order(101);
        Checks.due("a breach without a penalty can be waived, too", y.waive(0), 0);
        Checks.due("and uses a waiver", y.waiversLeft(), 0);
    }

    @Sentence(in = "Promise 32", says = "Throws `IndexOutOfBoundsException` if there is no such breach")
    static void waiveOfNoBreach() {
        SupplyContract x = Checks.contract(TEXT);
        Checks.throwsIndex("no breaches", () -> x.waive(0));
        x.forecast(1, 109);
        for (int breach : new int[] {-1, 1, 19, 20, Integer.MIN_VALUE, Integer.MAX_VALUE}) {
            Checks.throwsIndex("breach " + breach, () -> x.waive(breach));
        }
        Checks.throwsIndex("no contract", () -> new SupplyContract().waive(0));
    }

    @Sentence(in = "Promise 32", says = "Throws `IllegalStateException` if it cannot be waived")
    static void waiveOfWhatCannotBeWaived() {
        SupplyContract x = Checks.contract(TEXT);
        x.forecast(1, 109);
        x.forecast(1, 120);
        x.forecast(2, 130);
        x.forecast(3, 130);
        x.waive(0);
        Checks.throwsState("waived already", () -> x.waive(0));
        Checks.throwsState("too near", () -> x.waive(1));
        x.waive(2);
        Checks.throwsState("no waivers left", () -> x.waive(3));
        Checks.due("left", x.waiversLeft(), 0);
        Checks.holds("not waived", !x.isWaived(3));
    }

    /** A contract after the first changes of a run that has one of each kind. */
    private static SupplyContract changed(int changes) {
        SupplyContract x = Checks.contract(TEXT);
        for (int k = 0; k < changes; k++) {
            switch (k) {
                case 0 -> x.forecast(2, 130);
                case 1 -> x.order(120);
                case 2 -> x.waive(1);
                case 3 -> x.reserve(1, 50);
                default -> x.close();
            }
        }
        return x;
    }

    @Sentence(in = "Promise 33", says = "Undoes the latest change that has not been undone.")
    static void undoGivesBackTheState() {
        SupplyContract x = changed(5);
        for (int k = 4; k >= 0; k--) {
            Checks.due("undo " + k, x.undo(), k + 1);
            Checks.dueText("state " + k, Seen.state(x), Seen.state(changed(k)));
        }
    }

    @Sentence(in = "Promise 33", says = "Undoes the latest change that has not been undone.")
    static void undoOfALoad() {
        SupplyContract x = Checks.contract(TEXT);
        x.order(120);
        x.close();
        String before = Seen.state(x);
        Checks.load(x, "contract 40 77 9 9;spot 9 9;band 0 9 9;ladder 0 9;window 5;minimum 90;miss 9;waivers 4 9;"
            + "demand 99;");
        x.forecast(1, 1);
        x.close();
        x.undo();
        x.undo();
        Checks.due("undo of load", x.undo(), 3);
        Checks.dueText("the contract before", Seen.state(x), before);
        Checks.due("it can go on", x.close(), 100);
    }

    @Sentence(in = "Promise 33", says = "Undoes the latest change that has not been undone.")
    static void undoOfTheEnd() {
        SupplyContract x = Checks.contract("contract 2 10 5 2;window 6;miss 3;demand 25;");
        x.close();
        String before = Seen.state(x);
        x.close();
        Checks.due("ended", x.clock(), 2);
        x.undo();
        Checks.dueText("not ended", Seen.state(x), before);
        Checks.due("the end once more", x.close(), 20 + 50 - 3 * 30);
    }

    @Sentence(in = "Promise 33", says = "The input buffer and the error offset are not affected.")
    static void undoKeepsTheBufferAndTheOffset() {
        SupplyContract x = Checks.contract(TEXT);
        x.close();
        Checks.load(x, "contract 2 x");
        Checks.append(x, "contract 7 1 1 1;   ");
        Checks.due("undo of close", x.undo(), 1);
        Checks.due("offset", x.errorOffset(), 11);
        Checks.due("undo of load", x.undo(), 0);
        Checks.due("offset again", x.errorOffset(), 11);
        Checks.due("nothing to undo", x.undo(), -1);
        Checks.due("offset still", x.errorOffset(), 11);
        Checks.due("the buffer goes on", Checks.append(x, "window 1;           "), 40);
        Checks.due("the buffer is read", x.load(40), 7);
        x.undo();
        Checks.due("no error since", x.errorOffset(), -1);
        Checks.throwsArgument("the buffer stays empty", () -> x.load(1));
    }

    @Sentence(in = "Promise 33", says = "Returns the number of changes that can still be undone;")
    static void undoAnswersWhatIsLeft() {
        SupplyContract x = Checks.contract("contract 40 1 1 1;");
        x.close();
        Checks.due("one of two", x.undo(), 1);
        for (int k = 0; k < 7; k++) {
            x.close();
        }
        Checks.due("one of eight", x.undo(), 7);
        x.close();
        x.close();
        Checks.due("one of nine", x.undo(), 7);
        for (int k = 0; k < 20; k++) {
            x.close();
        }
        for (int left = 7; left >= 0; left--) {
            Checks.due("one after the other", x.undo(), left);
        }
    }

    @Sentence(in = "Promise 33", says = "-1 if there was none to undo, and nothing changes then.")
    static void nothingToUndo() {
        SupplyContract x = new SupplyContract();
        Checks.append(x, "contract 7 1 1 1;   ");
        Checks.due("a new object", x.undo(), -1);
        Checks.due("again", x.undo(), -1);
        Checks.due("the buffer", x.load(20), 7);
        x.order(3);
        x.close();
        for (int k = 0; k < 8; k++) {
            x.forecast(6, 50 + k);
        }
        for (int k = 0; k < 8; k++) {
            x.undo();
        }
        String before = Seen.state(x);
        Checks.due("the closing is too long ago", x.undo(), -1);
        Checks.due("the closing is too long ago, again", x.undo(), -1);
        Checks.dueText("state", Seen.state(x), before);
        x.close();
        Checks.due("a new change can be undone", x.undo(), 0);
        Checks.due("once", x.undo(), -1);
    }

    private static long mix(long... numbers) {
        long sum = 0;
        for (long n : numbers) {
            sum = 31 * sum + n;
        }
        return sum;
    }

    @Sentence(in = "Promise 34", says = "Computes a checksum. It starts at 0; each number n in the following order "
        + "replaces it by 31 * checksum + n,")
    static void checksumOfNothing() {
        Checks.due("no contract", new SupplyContract().checksum(), 0);
        SupplyContract x = Checks.contract("contract 2 0 0 0;");
        Checks.due("zeros and no orders", x.checksum(), mix(0, 0, 0, 0, 0, -1, 0, 0, 0, 0, -1, 0, 0));
        x.close();
        Checks.due("the clock comes first", x.checksum(), mix(1, 0, 0, 0, 0, 0, 0, 0, 0, 0, -1, 0, 0));
    }

    @Sentence(in = "Promise 34", says = "wrapping around on overflow of a long:")
    static void checksumWrapsAround() {
        SupplyContract x = closed("contract 40 9999 999 99;demand 9998;", 39);
        BigInteger sum = BigInteger.ZERO;
        List<Long> numbers = new ArrayList<>(List.of(39L, x.balance(), 0L));
        for (int p = 0; p < 40; p++) {
            numbers.addAll(List.of(9999L, 9998L, p < 39 ? 9998L : -1L, 0L, 0L));
        }
        for (long n : numbers) {
            sum = sum.multiply(BigInteger.valueOf(31)).add(BigInteger.valueOf(n));
        }
        Checks.holds("there is an overflow", sum.bitLength() > 64);
        Checks.due("its last 64 bits", x.checksum(), sum.longValue());
    }

    @Sentence(in = "Promise 34", says = "clock(), balance(), allBreaches(); for each period its reserved capacity, "
        + "its forecast, its order (-1 if there is none), its open units and its missed units;")
    static void checksumOfPeriods() {
        SupplyContract x = Checks.contract("contract 2 10 5 2;window 1;demand 4+period;");
        x.order(16);
        Checks.due("an order", x.checksum(), mix(0, 0, 0, 10, 4, 16, 16, 0, 10, 5, -1, 0, 0));
        x.reserve(1, 3);
        x.close();
        Checks.due("a closed period", x.checksum(), mix(1, 70, 0, 10, 4, 16, 6, 0, 3, 5, -1, 0, 0));
        x.close();
        Checks.due("the end", x.checksum(), mix(2, 70 + 21, 0, 10, 4, 16, 0, 3, 3, 5, 5, 0, 5));
    }

    @Sentence(in = "Promise 34", says = "for each recorded breach its penalty, or -1 if it is waived. "
        + "Returns the checksum.")
    static void checksumOfBreaches() {
        SupplyContract x = Checks.contract("contract 2 10 0 0;band 0 0 0;ladder 1 3;waivers 1 0;");
        x.forecast(1, 12);
        Checks.due("a breach", x.checksum(), mix(0, 6, 1, 10, 10, -1, 0, 0, 10, 12, -1, 0, 0, 6));
        x.order(9);
        Checks.due("two breaches", x.checksum(), mix(0, 9, 2, 10, 10, 9, 9, 0, 10, 12, -1, 0, 0, 6, 3));
        x.waive(0);
        Checks.due("one waived", x.checksum(), mix(0, 3, 2, 10, 10, 9, 9, 0, 10, 12, -1, 0, 0, -1, 3));
        SupplyContract y = Checks.contract("contract 2 0 0 0;band 0 0 0;ladder 0 1;demand 0;");
        long[] numbers = new long[13 + 20];
        for (int k = 0; k < 21; k++) {
            y.forecast(1, k + 1);
        }
        numbers[1] = 20;
        numbers[2] = 21;
        numbers[5] = -1;
        numbers[9] = 21;
        numbers[10] = -1;
        Arrays.fill(numbers, 13, 33, 1);
        Checks.due("a counted breach has no penalty there", y.checksum(), mix(numbers));
    }
}

import java.util.function.IntToLongFunction;

/** The sentences of the promises 14 to 25: bands, penalties, breaches and the best waivers. */
final class BreachPromises {
    private static final String A_BREACH = "- `breach`: index of a recorded breach";
    private static final String NO_BREACH = "Throws `IndexOutOfBoundsException` if there is no such breach";

    private BreachPromises() {
    }

    @Sentence(in = "Promise 14", says = "- `lead`: a lead, 0 to 39")
    static void bandForEveryLead() {
        SupplyContract x = Checks.contract("contract 2 10 1 0;band 0 1 1;band 39 2 2;");
        for (int lead = 0; lead < 39; lead++) {
            Checks.due("lead " + lead, x.bandFor(lead), 0);
        }
        Checks.due("lead 39", x.bandFor(39), 39);
    }

    @Sentence(in = "Promise 14", says = "Returns the lead of the band that applies;")
    static void bandFor() {
        SupplyContract x = Checks.contract("contract 2 10 1 0;band 7 1 1;band 5 2 2;");
        int[] leads = {5, 6, 7, 8, 39};
        int[] bands = {5, 5, 7, 7, 7};
        for (int k = 0; k < leads.length; k++) {
            Checks.due("lead " + leads[k], x.bandFor(leads[k]), bands[k]);
        }
    }

    @Sentence(in = "Promise 14", says = "-1 if there is none.")
    static void noBand() {
        SupplyContract x = Checks.contract("contract 2 10 1 0;band 5 2 2;");
        Checks.due("lead 0", x.bandFor(0), -1);
        Checks.due("lead 4", x.bandFor(4), -1);
        Checks.due("no bands", Checks.contract("contract 2 10 1 0;").bandFor(39), -1);
        Checks.due("no contract", new SupplyContract().bandFor(39), -1);
    }

    @Sentence(in = "Promise 14", says = "Throws `IllegalArgumentException` if lead is not 0 to 39")
    static void bandForWrongLeads() {
        SupplyContract x = Checks.contract("contract 40 10 1 0;band 0 1 1;");
        for (int lead : new int[] {-1, 40, 64, Integer.MIN_VALUE, Integer.MAX_VALUE}) {
            Checks.throwsArgument("lead " + lead, () -> x.bandFor(lead));
            Checks.throwsArgument("no contract, lead " + lead, () -> new SupplyContract().bandFor(lead));
        }
    }

    @Sentence(in = "Promise 15", says = "- `lead`: a lead, 0 to 39 - `forecast`: a forecast, 0 to 9999 "
        + "- `upper`: false for the smallest, true for the greatest allowed quantity Returns this allowed quantity,")
    static void allowed() {
        SupplyContract x = Checks.contract("contract 2 10 1 0;band 0 10 20;band 39 30 40;");
        int[] forecasts = {0, 9, 10, 1000, 9999};
        int[] smallest = {0, 9, 9, 900, 9000};
        int[] greatest = {0, 10, 12, 1200, 11998};
        for (int k = 0; k < forecasts.length; k++) {
            Checks.due("smallest of " + forecasts[k], x.allowed(0, forecasts[k], false), smallest[k]);
            Checks.due("greatest of " + forecasts[k], x.allowed(38, forecasts[k], true), greatest[k]);
        }
        Checks.due("lead 39: smallest", x.allowed(39, 100, false), 70);
        Checks.due("lead 39: greatest", x.allowed(39, 100, true), 140);
    }

    @Sentence(in = "Promise 15", says = "which may be greater than 9999;")
    static void allowedBeyond9999() {
        SupplyContract x = Checks.contract("contract 2 10 1 0;band 0 0 1;band 1 0 100;");
        Checks.due("1 percent", x.allowed(0, 9999, true), 10098);
        Checks.due("100 percent", x.allowed(1, 9999, true), 19998);
        Checks.due("just 9999", x.allowed(0, 9900, true), 9999);
        Checks.due("just above", x.allowed(0, 9901, true), 10000);
    }

    @Sentence(in = "Promise 15",
        says = "if every quantity is allowed, 0 for the smallest and 9999 for the greatest one.")
    static void everythingIsAllowed() {
        SupplyContract x = Checks.contract("contract 2 10 1 0;band 3 0 1;");
        for (int forecast : new int[] {0, 100, 9999}) {
            for (int lead : new int[] {0, 2}) {
                Checks.due("smallest", x.allowed(lead, forecast, false), 0);
                Checks.due("greatest", x.allowed(lead, forecast, true), 9999);
            }
            Checks.due("no contract: smallest", new SupplyContract().allowed(39, forecast, false), 0);
            Checks.due("no contract: greatest", new SupplyContract().allowed(39, forecast, true), 9999);
        }
    }

    @Sentence(in = "Promise 15", says = "Throws `IllegalArgumentException` if lead or forecast is out of range")
    static void allowedWrongArguments() {
        SupplyContract x = Checks.contract("contract 40 10 1 0;band 0 1 1;");
        for (SupplyContract c : new SupplyContract[] {x, new SupplyContract()}) {
            for (int lead : new int[] {-1, 40, Integer.MIN_VALUE, Integer.MAX_VALUE}) {
                Checks.throwsArgument("lead " + lead, () -> c.allowed(lead, 0, false));
                Checks.throwsArgument("lead " + lead, () -> c.allowed(lead, 9999, true));
                Checks.throwsArgument("both", () -> c.allowed(lead, -1, true));
            }
            for (int forecast : new int[] {-1, 10000, Integer.MIN_VALUE, Integer.MAX_VALUE}) {
                Checks.throwsArgument("forecast " + forecast, () -> c.allowed(0, forecast, false));
                Checks.throwsArgument("forecast " + forecast, () -> c.allowed(39, forecast, true));
            }
        }
    }

    @Sentence(in = "Promise 16", says = "- `excess`: 0 to 9999 - `forecast`: 0 to 9999 "
        + "Returns the penalty of a breach with this excess for a period with this forecast;")
    static void penaltyFor() {
        SupplyContract x = Checks.contract("contract 2 100 1 0;band 0 0 0;ladder 0 1 50 2 100 999;");
        Checks.due("1 of 9999", x.penaltyFor(1, 9999), 1);
        Checks.due("9999 of 9999", x.penaltyFor(9999, 9999), 9999 * 999);
        Checks.due("9999 of 0", x.penaltyFor(9999, 0), 9999 * 999);
        Checks.due("1 of 0", x.penaltyFor(1, 0), 999);
        Checks.due("49 of 100", x.penaltyFor(49, 100), 49);
        Checks.due("50 of 100", x.penaltyFor(50, 100), 100);
        Checks.due("the same as that of a forecast", x.forecast(1, 150), x.penaltyFor(50, 100));
        Checks.due("the same as that of an order", x.order(1), x.penaltyFor(99, 100));
    }

    @Sentence(in = "Promise 16", says = "0 if excess is 0.")
    static void noExcessNoPenalty() {
        SupplyContract x = Checks.contract("contract 2 100 1 0;ladder 0 999;");
        for (int forecast : new int[] {0, 1, 9999}) {
            Checks.due("forecast " + forecast, x.penaltyFor(0, forecast), 0);
            Checks.due("no contract, forecast " + forecast, new SupplyContract().penaltyFor(0, forecast), 0);
        }
    }

    @Sentence(in = "Promise 16", says = "Throws `IllegalArgumentException` if excess or forecast is out of range")
    static void penaltyForWrongArguments() {
        SupplyContract x = Checks.contract("contract 2 100 1 0;ladder 0 999;");
        for (SupplyContract c : new SupplyContract[] {x, new SupplyContract()}) {
            for (int units : new int[] {-1, 10000, Integer.MIN_VALUE, Integer.MAX_VALUE}) {
                Checks.throwsArgument("excess " + units, () -> c.penaltyFor(units, 0));
                Checks.throwsArgument("forecast " + units, () -> c.penaltyFor(0, units));
                Checks.throwsArgument("forecast " + units, () -> c.penaltyFor(9999, units));
                Checks.throwsArgument("both " + units, () -> c.penaltyFor(units, units));
            }
        }
    }

    /** As many breaches of kind 1, each with a penalty of 3 * excess, in the periods 1, 2 and 3 by turns. */
    private static SupplyContract breaches(int count) {
        SupplyContract x = Checks.contract("contract 4 100 1 0;band 0 0 0;ladder 0 3;waivers 4 0;");
        for (int k = 0; k < count; k++) {
            int period = 1 + k % 3;
            x.forecast(period, x.forecastOf(period) + 1 + k);
        }
        return x;
    }

    @Sentence(in = "Promise 17", says = "Returns the number of recorded breaches.")
    static void breachCount() {
        for (int count : new int[] {0, 1, 19, 20, 21, 30}) {
            Checks.due(count + " breaches", breaches(count).breachCount(), Math.min(20, count));
        }
        Checks.due("no contract", new SupplyContract().breachCount(), 0);
        SupplyContract x = breaches(2);
        x.waive(0);
        Checks.due("a waived one is recorded", x.breachCount(), 2);
    }

    @Sentence(in = "Promise 18", says = "Returns the number of all breaches, recorded or only counted.")
    static void allBreaches() {
        for (int count : new int[] {0, 1, 19, 20, 21, 30}) {
            Checks.due(count + " breaches", breaches(count).allBreaches(), count);
        }
        Checks.due("no contract", new SupplyContract().allBreaches(), 0);
        SupplyContract x = breaches(22);
        x.undo();
        Checks.due("undo of a counted one", x.allBreaches(), 21);
        x.undo();
        x.undo();
        Checks.due("undo of a recorded one", x.allBreaches(), 19);
    }

    private static void noSuchBreach(SupplyContract x, IntToLongFunction call) {
        int n = x.breachCount();
        for (int breach : new int[] {-1, n, n + 1, 20, 21, Integer.MIN_VALUE, Integer.MAX_VALUE}) {
            Checks.throwsIndex("breach " + breach + " of " + n, () -> call.applyAsLong(breach));
        }
        for (int breach = 0; breach < n; breach++) {
            Checks.holds("breach " + breach + " of " + n, call.applyAsLong(breach) >= 0);
        }
    }

    @Sentence(in = "Promise 19", says = A_BREACH + " Returns its period.")
    static void breachPeriod() {
        SupplyContract x = breaches(20);
        for (int b = 0; b < 20; b++) {
            Checks.due("breach " + b, x.breachPeriod(b), 1 + b % 3);
        }
        SupplyContract y = Checks.contract("contract 40 100 1 0;band 0 0 0;");
        y.order(99);
        y.forecast(39, 99);
        Checks.due("the first period", y.breachPeriod(0), 0);
        Checks.due("the last period", y.breachPeriod(1), 39);
    }

    @Sentence(in = "Promise 19", says = NO_BREACH)
    static void breachPeriodOfNoBreach() {
        for (int count : new int[] {0, 2, 20, 21}) {
            SupplyContract x = breaches(count);
            noSuchBreach(x, x::breachPeriod);
        }
    }

    @Sentence(in = "Promise 20", says = A_BREACH + " Returns its kind.")
    static void breachKind() {
        SupplyContract x = breaches(2);
        x.order(99);
        Checks.due("a forecast", x.breachKind(0), 1);
        Checks.due("another forecast", x.breachKind(1), 1);
        Checks.due("an order", x.breachKind(2), 2);
        x.undo();
        x.forecast(3, 1);
        Checks.due("a forecast at the place of an order", x.breachKind(2), 1);
    }

    @Sentence(in = "Promise 20", says = NO_BREACH)
    static void breachKindOfNoBreach() {
        for (int count : new int[] {0, 2, 20, 21}) {
            SupplyContract x = breaches(count);
            noSuchBreach(x, x::breachKind);
        }
    }

    @Sentence(in = "Promise 21", says = A_BREACH + " Returns its penalty")
    static void breachPenalty() {
        SupplyContract x = breaches(20);
        for (int b = 0; b < 20; b++) {
            Checks.due("breach " + b, x.breachPenalty(b), 3 * (1 + b));
        }
        SupplyContract y = Checks.contract("contract 4 0 1 0;band 0 0 0;ladder 0 0 100 999;");
        y.order(9999);
        Checks.due("the greatest penalty", y.breachPenalty(0), 9999 * 999);
        y.forecast(1, 0);
        Checks.due("no breach", y.breachCount(), 1);
    }

    @Sentence(in = "Promise 21", says = "(also if it is waived).")
    static void penaltyOfAWaivedBreach() {
        SupplyContract x = breaches(2);
        x.waive(1);
        Checks.due("waived", x.breachPenalty(1), 6);
        Checks.due("not waived", x.breachPenalty(0), 3);
    }

    @Sentence(in = "Promise 21", says = NO_BREACH)
    static void breachPenaltyOfNoBreach() {
        for (int count : new int[] {0, 2, 20, 21}) {
            SupplyContract x = breaches(count);
            noSuchBreach(x, x::breachPenalty);
        }
    }

    @Sentence(in = "Promise 22", says = A_BREACH + " Returns whether it is waived.")
    static void isWaived() {
        SupplyContract x = breaches(20);
        x.waive(0);
        x.waive(19);
        for (int b = 0; b < 20; b++) {
            Checks.due("breach " + b, x.isWaived(b) ? 1 : 0, b == 0 || b == 19 ? 1 : 0);
        }
        x.undo();
        Checks.holds("not after undo", !x.isWaived(19));
        Checks.holds("the other one still", x.isWaived(0));
    }

    @Sentence(in = "Promise 22", says = NO_BREACH)
    static void isWaivedOfNoBreach() {
        for (int count : new int[] {0, 2, 20, 21}) {
            SupplyContract x = breaches(count);
            noSuchBreach(x, b -> Checks.bit(() -> x.isWaived(b)));
        }
    }

    @Sentence(in = "Promise 23", says = "Returns the number of breaches that can still be waived: "
        + "the number of waivers minus the number of waived breaches.")
    static void waiversLeft() {
        Checks.due("no contract", new SupplyContract().waiversLeft(), 0);
        Checks.due("no waivers", Checks.contract("contract 2 1 1 1;").waiversLeft(), 0);
        SupplyContract x = breaches(6);
        for (int b = 0; b < 4; b++) {
            Checks.due(b + " waived", x.waiversLeft(), 4 - b);
            x.waive(b);
        }
        Checks.due("4 waived", x.waiversLeft(), 0);
        x.undo();
        Checks.due("after undo", x.waiversLeft(), 1);
        Checks.due("without any breach", Checks.contract("contract 2 1 1 1;waivers 3 40;").waiversLeft(), 3);
    }

    /** A contract of 20 periods with breaches of these periods and penalties. */
    private static SupplyContract breached(String waivers, int... periodsAndPenalties) {
        SupplyContract x = Checks.contract("contract 20 1000 1 0;band 0 0 0;ladder 0 1;" + waivers);
        for (int k = 0; k < periodsAndPenalties.length; k += 2) {
            int period = periodsAndPenalties[k];
            x.forecast(period, x.forecastOf(period) + periodsAndPenalties[k + 1]);
        }
        return x;
    }

    private static void best(String what, SupplyContract x, int sum, int... breaches) {
        Checks.due(what + ": sum", x.bestWaiving(), sum);
        for (int k = 0; k < breaches.length; k++) {
            Checks.due(what + ": breach " + k, x.bestWaiver(k), breaches[k]);
        }
        Checks.due(what + ": no more", x.bestWaiver(breaches.length), -1);
    }

    @Sentence(in = "Promise 24", says = "Finds the best further waivers:")
    static void furtherWaivers() {
        SupplyContract x = breached("waivers 3 0;", 1, 9, 2, 8, 3, 7, 4, 6);
        best("none waived", x, 24, 0, 1, 2);
        x.waive(1);
        best("one waived", x, 16, 0, 2);
        x.waive(3);
        best("two waived", x, 9, 0);
        x.waive(2);
        best("three waived", x, 0);
        x.undo();
        best("two waived again", x, 9, 0);
        Checks.due("it waives nothing", x.waiversLeft(), 1);
    }

    @Sentence(in = "Promise 24", says = "a set of breaches with penalties above 0")
    static void onlyPenaltiesAbove0() {
        SupplyContract x = Checks.contract("contract 9 1000 1 0;band 0 0 0;ladder 1 1;waivers 4 0;");
        x.forecast(1, 1009);
        x.forecast(2, 1010);
        x.forecast(3, 1001);
        best("one of three has a penalty", x, 10, 1);
        SupplyContract none = Checks.contract("contract 9 1000 1 0;band 0 0 0;waivers 4 0;");
        none.forecast(1, 1);
        best("none has a penalty", none, 0);
    }

    @Sentence(in = "Promise 24", says = "that could all be waived one after another now (see Waivers),")
    static void onlyWhatCouldBeWaived() {
        best("no waivers", breached("", 1, 9), 0);
        best("one waiver", breached("waivers 1 0;", 1, 8, 2, 9), 9, 1);
        best("four waivers", breached("waivers 4 0;", 1, 1, 2, 2, 3, 3, 4, 4, 5, 5), 14, 1, 2, 3, 4);
        best("one of each period", breached("waivers 4 1;", 3, 5, 3, 6, 3, 4, 4, 1), 7, 1, 3);
        best("a gap of 2", breached("waivers 4 2;", 3, 5, 4, 9, 5, 5), 10, 0, 2);
        best("a gap of 3", breached("waivers 4 3;", 3, 5, 4, 9, 5, 5), 9, 1);
        best("a gap of 40", breached("waivers 4 40;", 1, 5, 19, 5), 5, 0);
        SupplyContract x = breached("waivers 4 2;", 10, 1, 9, 50, 11, 50, 8, 2, 12, 3);
        x.waive(0);
        best("the gap to a waived breach", x, 5, 3, 4);
    }

    @Sentence(in = "Promise 24", says = "with the greatest sum of penalties.")
    static void theGreatestSum() {
        best("not the greatest first", breached("waivers 2 2;", 2, 6, 3, 10, 4, 6), 12, 0, 2);
        best("the greatest alone", breached("waivers 2 2;", 2, 4, 3, 10, 4, 5), 10, 1);
        best("a chain", breached("waivers 4 2;", 1, 5, 2, 6, 3, 5, 4, 6, 5, 5), 15, 0, 2, 4);
        SupplyContract x = Checks.contract("contract 9 0 1 0;band 0 0 0;ladder 0 999;waivers 4 0;");
        for (int period = 1; period <= 5; period++) {
            x.forecast(period, 9999);
        }
        best("the greatest penalties", x, 4 * 999 * 9999, 0, 1, 2, 3);
    }

    @Sentence(in = "Promise 24", says = "Returns this sum; 0 for the empty set.")
    static void theSum() {
        Checks.due("no contract", new SupplyContract().bestWaiving(), 0);
        Checks.due("no breaches", breached("waivers 4 0;").bestWaiving(), 0);
        Checks.due("one breach", breached("waivers 4 0;", 1, 7).bestWaiving(), 7);
        SupplyContract x = breached("waivers 4 1;");
        for (int k = 0; k < 20; k++) {
            int period = 1 + k % 19;
            x.forecast(period, x.forecastOf(period) + 1 + k);
        }
        Checks.due("twenty breaches", x.bestWaiving(), 20 + 19 + 18 + 17);
        x.forecast(5, 9999);
        Checks.due("a breach that is only counted", x.bestWaiving(), 20 + 19 + 18 + 17);
    }

    @Sentence(in = "Promise 25", says = "- `k`: index, from 0 Returns the breach at index k, in increasing order, "
        + "of the best set (see bestWaiving);")
    static void bestWaiver() {
        SupplyContract x = breached("waivers 4 0;", 9, 4, 5, 9, 7, 1, 3, 8, 8, 7);
        int[] want = {0, 1, 3, 4};
        for (int k = 3; k >= 0; k--) {
            Checks.due("index " + k, x.bestWaiver(k), want[k]);
        }
        x.forecast(4, 1020);
        Checks.due("after another breach: sum", x.bestWaiving(), 20 + 9 + 8 + 7);
        Checks.due("after another breach: index 0", x.bestWaiver(0), 1);
        Checks.due("after another breach: index 3", x.bestWaiver(3), 5);
        x.undo();
        Checks.due("after undo: index 3", x.bestWaiver(3), 4);
    }

    @Sentence(in = "Promise 25", says = "of several such sets, the one whose breaches in increasing order are "
        + "lexicographically smallest.")
    static void theSmallestOfSeveralSets() {
        best("equal breaches", breached("waivers 2 0;", 1, 5, 2, 5, 3, 5), 10, 0, 1);
        best("a small first breach does not help", breached("waivers 2 0;", 1, 3, 2, 7, 3, 7, 4, 7), 14, 1, 2);
        best("one great breach or two small ones", breached("waivers 2 2;", 3, 10, 2, 5, 4, 5), 10, 0);
        best("two small breaches or one great one", breached("waivers 2 2;", 2, 5, 3, 10, 4, 5), 10, 0, 2);
        best("the first is the same", breached("waivers 2 2;", 5, 9, 5, 9, 9, 4, 2, 4), 13, 0, 2);
        best("the longer one is smaller", breached("waivers 3 3;", 10, 4, 13, 4, 16, 4, 12, 8, 15, 4), 12, 0, 1, 2);
    }

    @Sentence(in = "Promise 25", says = "-1 if the set has no such breach.")
    static void noSuchBreachInTheSet() {
        SupplyContract x = breached("waivers 4 0;", 1, 5, 2, 6);
        for (int k : new int[] {2, 3, 4, 20, Integer.MAX_VALUE}) {
            Checks.due("index " + k, x.bestWaiver(k), -1);
            Checks.due("no contract, index " + k, new SupplyContract().bestWaiver(k), -1);
            Checks.due("the empty set, index " + k, breached("waivers 4 0;").bestWaiver(k), -1);
        }
        Checks.due("the last one", x.bestWaiver(1), 1);
        Checks.due("the empty set, index 0", breached("", 1, 5).bestWaiver(0), -1);
    }

    @Sentence(in = "Promise 25", says = "Throws `IllegalArgumentException` if k is negative")
    static void negativeIndexes() {
        SupplyContract x = breached("waivers 4 0;", 1, 5, 2, 6);
        for (int k : new int[] {-1, -4, Integer.MIN_VALUE}) {
            Checks.throwsArgument("index " + k, () -> x.bestWaiver(k));
            Checks.throwsArgument("no contract, index " + k, () -> new SupplyContract().bestWaiver(k));
        }
    }
}

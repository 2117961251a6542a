/** Promises 14 to 25, 28, 29 and 32: bands, penalties, breaches and waivers. */
public final class BreachTest {
    public static void main(String[] args) {
        bands();
        allowedQuantities();
        penalties();
        wrongArguments();
        forecastBreaches();
        orderBreaches();
        recordedAndCounted();
        wrongBreaches();
        waiving();
        waivingWithGap();
        bestWaivers();
        bestWaiversWithGap();
        equallyGoodWaivers();
        bestWaiversAreFewEnough();
        Checks.end("BreachTest");
    }

    private static void bands() {
        SupplyContract x = Checks.contract("contract 4 10 1 0;band 5 1 2;band 1 3 4;band 39 5 6;");
        Checks.due("lead 0", x.bandFor(0), -1);
        Checks.due("lead 1", x.bandFor(1), 1);
        Checks.due("lead 4", x.bandFor(4), 1);
        Checks.due("lead 5", x.bandFor(5), 5);
        Checks.due("lead 38", x.bandFor(38), 5);
        Checks.due("lead 39", x.bandFor(39), 39);
    }

    private static void allowedQuantities() {
        SupplyContract x = Checks.contract("contract 4 10 1 0;band 1 15 33;band 3 0 0;band 5 100 100;");
        Checks.due("no band: smallest", x.allowed(0, 100, false), 0);
        Checks.due("no band: greatest", x.allowed(0, 100, true), 9999);
        Checks.due("smallest", x.allowed(1, 99, false), 99 - 14);
        Checks.due("greatest", x.allowed(2, 99, true), 99 + 32);
        Checks.due("0 percent: smallest", x.allowed(3, 77, false), 77);
        Checks.due("0 percent: greatest", x.allowed(4, 77, true), 77);
        Checks.due("100 percent: smallest", x.allowed(5, 9999, false), 0);
        Checks.due("100 percent: greatest", x.allowed(39, 9999, true), 19998);
        Checks.due("forecast 0", x.allowed(1, 0, true), 0);
        Checks.due("no contract: smallest", new SupplyContract().allowed(39, 9999, false), 0);
        Checks.due("no contract: greatest", new SupplyContract().allowed(39, 0, true), 9999);
    }

    private static void penalties() {
        SupplyContract x = Checks.contract("contract 4 10 1 0;ladder 5 2 20 7 999 999;");
        Checks.due("no excess", x.penaltyFor(0, 100), 0);
        Checks.due("no excess and no forecast", x.penaltyFor(0, 0), 0);
        Checks.due("below the first step", x.penaltyFor(4, 100), 0);
        Checks.due("at the first step", x.penaltyFor(5, 100), 10);
        Checks.due("the percentage rounds down", x.penaltyFor(59, 300), 118);
        Checks.due("at the second step", x.penaltyFor(60, 300), 420);
        Checks.due("below the third step", x.penaltyFor(998, 100), 998 * 7);
        Checks.due("at the third step", x.penaltyFor(999, 100), 999 * 999);
        Checks.due("forecast 0, excess 9", x.penaltyFor(9, 0), 63);
        Checks.due("forecast 0, excess 10", x.penaltyFor(10, 0), 9990);
        Checks.due("the greatest penalty", x.penaltyFor(9999, 0), 9999 * 999);
        Checks.due("forecast 1", x.penaltyFor(1, 1), 7);
        SupplyContract y = Checks.contract("contract 4 10 1 0;");
        Checks.due("no ladder", y.penaltyFor(50, 1), 0);
        Checks.due("no contract", new SupplyContract().penaltyFor(50, 1), 0);
    }

    private static void wrongArguments() {
        SupplyContract x = Checks.contract("contract 4 10 1 0;band 0 1 1;ladder 0 1;");
        for (int lead : new int[] {-1, 40, Integer.MIN_VALUE, Integer.MAX_VALUE}) {
            Checks.throwsArgument("bandFor " + lead, () -> x.bandFor(lead));
            Checks.throwsArgument("allowed " + lead, () -> x.allowed(lead, 0, true));
        }
        for (int units : new int[] {-1, 10000, Integer.MIN_VALUE, Integer.MAX_VALUE}) {
            Checks.throwsArgument("allowed forecast " + units, () -> x.allowed(0, units, false));
            Checks.throwsArgument("penaltyFor excess " + units, () -> x.penaltyFor(units, 5));
            Checks.throwsArgument("penaltyFor forecast " + units, () -> x.penaltyFor(5, units));
        }
        Checks.throwsArgument("penaltyFor: no excess, wrong forecast", () -> x.penaltyFor(0, -1));
        Checks.due("leads beyond the periods", x.bandFor(39), 0);
    }

    private static void forecastBreaches() {
        SupplyContract x = Checks.contract("contract 5 100 1 0;band 0 0 0;band 2 10 20;ladder 0 2 10 3;");
        Checks.due("at the upper edge", x.forecast(2, 120), 0);
        Checks.due("at the lower edge of the new forecast", x.forecast(2, 108), 0);
        Checks.due("no breach", x.allBreaches(), 0);
        Checks.due("below the lower edge", x.forecast(2, 97), 2);
        Checks.due("forecast", x.forecastOf(2), 97);
        Checks.due("above the upper edge", x.forecast(4, 131), 33);
        Checks.due("lead 1", x.forecast(1, 109), 18);
        Checks.due("all", x.allBreaches(), 3);
        Checks.due("period 0", x.breachPeriod(0), 2);
        Checks.due("period 1", x.breachPeriod(1), 4);
        Checks.due("period 2", x.breachPeriod(2), 1);
        Checks.due("kind", x.breachKind(1), 1);
        Checks.due("penalty", x.breachPenalty(1), 33);
        x.close();
        Checks.due("the lead is counted from the clock", x.forecast(2, 98), 2);
        Checks.throwsState("the current period", () -> x.forecast(1, 5));
        Checks.throwsState("a closed period", () -> x.forecast(0, 5));
        Checks.throwsIndex("no such period", () -> x.forecast(5, -1));
        Checks.throwsIndex("a negative period", () -> x.forecast(-1, 5));
        Checks.throwsArgument("the quantity before the state", () -> x.forecast(0, 10000));
        Checks.throwsArgument("a negative quantity", () -> x.forecast(4, -1));
        Checks.throwsIndex("no contract", () -> new SupplyContract().forecast(0, -1));
        Checks.due("exceptions change nothing", x.forecastOf(4), 131);
        Checks.due("exceptions record nothing", x.allBreaches(), 4);
    }

    private static void orderBreaches() {
        SupplyContract x = Checks.contract("contract 5 100 1 0;band 0 10 20;band 1 0 0;ladder 1 3;");
        Checks.due("at the lower edge", x.order(90), 0);
        x.close();
        Checks.due("one below", x.order(89), 3);
        Checks.due("the order is accepted", x.orderOf(1), 89);
        x.close();
        Checks.due("at the upper edge", x.order(120), 0);
        x.close();
        Checks.due("above", x.order(125), 15);
        Checks.due("all", x.allBreaches(), 2);
        Checks.due("kind", x.breachKind(0), 2);
        Checks.due("period", x.breachPeriod(1), 3);
        x.close();
        x.close();
        Checks.throwsState("after the end", () -> x.forecast(4, 5));

        SupplyContract y = Checks.contract("contract 2 100 1 0;band 1 0 0;ladder 0 3;");
        Checks.due("no band for lead 0", y.order(9999), 0);
        Checks.due("no breach", y.allBreaches(), 0);
        SupplyContract z = Checks.contract("contract 2 100 1 0;band 0 0 0;ladder 50 3;");
        Checks.due("a breach without a penalty", z.order(101), 0);
        Checks.due("is recorded", z.breachCount(), 1);
        Checks.due("penalty", z.breachPenalty(0), 0);
    }

    private static void recordedAndCounted() {
        SupplyContract x = Checks.contract("contract 2 10 1 0;band 0 0 0;ladder 0 2;waivers 4 0;");
        for (int k = 1; k <= 20; k++) {
            Checks.due("forecast " + k, x.forecast(1, 10 + k), 2);
            Checks.due("recorded " + k, x.breachCount(), k);
            Checks.due("all " + k, x.allBreaches(), k);
        }
        Checks.due("only counted", x.forecast(1, 9), 0);
        Checks.due("the forecast is revised", x.forecastOf(1), 9);
        Checks.due("an order that is only counted", x.order(9), 0);
        Checks.due("recorded", x.breachCount(), 20);
        Checks.due("all", x.allBreaches(), 22);
        Checks.due("balance", x.balance(), 40);
        Checks.throwsIndex("no such breach", () -> x.breachPenalty(20));
        Checks.throwsIndex("cannot be waived", () -> x.waive(20));
        Checks.due("the last recorded one", x.waive(19), 2);
    }

    private static void wrongBreaches() {
        SupplyContract x = Checks.contract("contract 2 10 1 0;band 0 0 0;ladder 0 2;waivers 4 0;");
        x.forecast(1, 12);
        for (int breach : new int[] {-1, 1, 20, Integer.MIN_VALUE, Integer.MAX_VALUE}) {
            Checks.throwsIndex("breachPeriod " + breach, () -> x.breachPeriod(breach));
            Checks.throwsIndex("breachKind " + breach, () -> x.breachKind(breach));
            Checks.throwsIndex("breachPenalty " + breach, () -> x.breachPenalty(breach));
            Checks.throwsIndex("isWaived " + breach, () -> Checks.bit(() -> x.isWaived(breach)));
            Checks.throwsIndex("waive " + breach, () -> x.waive(breach));
        }
    }

    private static SupplyContract breached(String waivers, int... periodsAndPenalties) {
        SupplyContract x = Checks.contract("contract 20 100 1 0;band 0 0 0;ladder 0 1;" + waivers);
        for (int k = 0; k < periodsAndPenalties.length; k += 2) {
            int period = periodsAndPenalties[k];
            int penalty = periodsAndPenalties[k + 1];
            Checks.due("a breach", x.forecast(period, x.forecastOf(period) + penalty), penalty);
        }
        return x;
    }

    private static void waiving() {
        SupplyContract x = breached("waivers 2 0;", 1, 5, 1, 6, 2, 7);
        Checks.holds("not waived at first", !x.isWaived(1));
        Checks.due("left", x.waiversLeft(), 2);
        Checks.due("waive", x.waive(1), 6);
        Checks.holds("waived", x.isWaived(1));
        Checks.holds("not waived", !x.isWaived(0));
        Checks.due("the penalty of a waived breach", x.breachPenalty(1), 6);
        Checks.due("left", x.waiversLeft(), 1);
        Checks.throwsState("waived already", () -> x.waive(1));
        Checks.due("waive in the same period", x.waive(0), 5);
        Checks.throwsState("no waivers left", () -> x.waive(2));
        Checks.due("left", x.waiversLeft(), 0);
        Checks.due("balance", x.balance(), 7);
        SupplyContract y = breached("", 1, 5);
        Checks.throwsState("no waivers at all", () -> y.waive(0));
    }

    private static void waivingWithGap() {
        SupplyContract x = breached("waivers 4 3;", 5, 1, 7, 2, 8, 3, 3, 4, 2, 5, 5, 6);
        x.waive(0);
        Checks.throwsState("2 later", () -> x.waive(1));
        Checks.throwsState("2 earlier", () -> x.waive(3));
        Checks.throwsState("the same period", () -> x.waive(5));
        Checks.due("3 later", x.waive(2), 3);
        Checks.due("3 earlier", x.waive(4), 5);
        Checks.due("left", x.waiversLeft(), 1);
    }

    private static void best(String what, SupplyContract x, int sum, int... breaches) {
        long before = x.checksum();
        Checks.due(what + ": sum", x.bestWaiving(), sum);
        for (int k = 0; k < breaches.length; k++) {
            Checks.due(what + ": breach " + k, x.bestWaiver(k), breaches[k]);
        }
        for (int k : new int[] {breaches.length, 4, 20, Integer.MAX_VALUE}) {
            Checks.due(what + ": no breach " + k, x.bestWaiver(k), -1);
        }
        Checks.throwsArgument(what + ": negative index", () -> x.bestWaiver(-1));
        Checks.throwsArgument(what + ": least index", () -> x.bestWaiver(Integer.MIN_VALUE));
        Checks.due(what + ": nothing changes", x.checksum(), before);
    }

    private static void bestWaivers() {
        best("no breaches", breached("waivers 4 0;"), 0);
        best("no waivers", breached("", 1, 5), 0);
        best("one", breached("waivers 1 0;", 1, 5, 2, 9, 3, 7), 9, 1);
        best("two", breached("waivers 2 0;", 1, 5, 2, 9, 3, 7), 16, 1, 2);
        best("more waivers than breaches", breached("waivers 4 0;", 1, 5, 2, 9, 3, 7), 21, 0, 1, 2);
        best("four", breached("waivers 4 0;", 1, 5, 2, 9, 3, 7, 1, 6, 1, 4, 1, 8), 30, 1, 2, 3, 5);
        SupplyContract x = breached("waivers 2 0;", 1, 5, 2, 9, 3, 7);
        x.waive(1);
        best("after a waiver", x, 7, 2);
        x.waive(0);
        best("no waivers left", x, 0);
        SupplyContract y = Checks.contract("contract 4 100 1 0;band 0 0 0;ladder 50 1;waivers 4 0;");
        y.forecast(1, 101);
        best("no penalties", y, 0);
        SupplyContract z = breached("waivers 1 0;", 1, 5, 2, 9);
        Checks.due("bestWaiver before bestWaiving", z.bestWaiver(0), 1);
        z.forecast(3, 120);
        Checks.due("bestWaiver after a new breach", z.bestWaiver(0), 2);
        y.forecast(2, 160);
        best("a penalty", y, 60, 1);
    }

    private static void bestWaiversWithGap() {
        best("the middle is worth less than both sides", breached("waivers 4 2;", 2, 6, 3, 10, 4, 6), 12, 0, 2);
        best("the middle is worth more than both sides", breached("waivers 4 2;", 2, 4, 3, 10, 4, 4), 10, 1);
        best("one for each period", breached("waivers 4 1;", 2, 4, 2, 5, 2, 3, 3, 1), 6, 1, 3);
        SupplyContract x = breached("waivers 4 3;", 6, 1, 4, 50, 8, 50, 3, 2, 9, 2, 7, 9);
        x.waive(0);
        best("the gap to a waived breach counts", x, 4, 3, 4);
        best("a gap of 40", breached("waivers 4 40;", 1, 5, 19, 6), 6, 1);
    }

    private static void equallyGoodWaivers() {
        best("equal breaches", breached("waivers 2 0;", 1, 5, 2, 5, 3, 5), 10, 0, 1);
        best("one great or two small", breached("waivers 2 2;", 3, 10, 2, 5, 4, 5), 10, 0);
        best("two small or one great", breached("waivers 2 2;", 2, 5, 3, 10, 4, 5), 10, 0, 2);
        best("the smallest first breach", breached("waivers 2 0;", 1, 3, 2, 7, 3, 7, 4, 7), 14, 1, 2);
    }

    private static void bestWaiversAreFewEnough() {
        SupplyContract x = breached("waivers 4 1;");
        for (int k = 0; k < 20; k++) {
            int period = 1 + k % 19;
            x.forecast(period, x.forecastOf(period) + 1 + k);
        }
        best("twenty breaches", x, 20 + 19 + 18 + 17, 16, 17, 18, 19);
    }
}

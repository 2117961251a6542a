import java.util.function.Consumer;

/** The sentences of the promises 26 and 27: projected and bestReserved. */
final class PlanPromises {
    private static final String TEXT = "contract 9 10 2 1;spot 3 9;window 2;minimum 80;miss 4;demand 3+season*7;";

    private PlanPromises() {
    }

    @Sentence(in = "Promise 26", says = "Projects the costs: closes all remaining periods on a copy,")
    static void projectedWorksOnACopy() {
        SupplyContract x = Checks.contract(TEXT);
        x.order(30);
        x.close();
        String before = Seen.state(x);
        x.projected();
        x.projected();
        Checks.dueText("state", Seen.state(x), before);
        Checks.due("undo", x.undo(), 2);
    }

    @Sentence(in = "Promise 26", says = "closes all remaining periods")
    static void projectedClosesAllPeriods() {
        SupplyContract x = Checks.contract(TEXT);
        for (int p = 0; p < 9; p++) {
            long projected = x.projected();
            SupplyContract y = Checks.contract(TEXT);
            for (int k = 0; k < p; k++) {
                y.close();
            }
            long closed = 0;
            for (int k = p; k < 9; k++) {
                closed += y.close();
            }
            Checks.due("from period " + p + " on", projected, closed);
            x.close();
        }
    }

    @Sentence(in = "Promise 26", says = "without further forecasts, orders and reservations.")
    static void withoutFurtherChanges() {
        SupplyContract x = Checks.contract("contract 3 10 2 1;spot 5 9;miss 1;demand 12+2*period;");
        Checks.due("forecasts are ordered", x.projected(), 30 + 2 * 9 + 30 + 4 * 9 + 30 + 5 * 9 - 1);
        x.order(0);
        Checks.due("an order that has been placed counts", x.projected(), 10 + 30 + 4 * 9 + 30 + 5 * 9 - 1);
        x.forecast(2, 0);
        Checks.due("a forecast that has been revised counts", x.projected(), 10 + 30 + 4 * 9 + 10);
        x.reserve(2, 3);
        Checks.due("a reservation that has been made counts", x.projected(), 10 + 30 + 4 * 9 + 3);
    }

    @Sentence(in = "Promise 26", says = "Returns the sum of the invoices of the periods from the clock on.")
    static void theSumFromTheClockOn() {
        SupplyContract x = Checks.contract("contract 3 10 2 1;band 0 0 0;ladder 0 1;demand 5+period;");
        x.forecast(2, 9);
        Checks.due("all periods, without penalties", x.projected(), 30 + 10 + 12 + 18);
        x.close();
        Checks.due("without closed periods", x.projected(), 20 + 12 + 18);
        x.close();
        Checks.due("the last period", x.projected(), 10 + 18);
        x.close();
        Checks.due("after the end", x.projected(), 0);
        Checks.due("no contract", new SupplyContract().projected(), 0);
        SupplyContract y = Checks.contract("contract 40 9999 999 99;spot 9999 999;");
        Checks.due("the greatest costs", y.projected(), 40L * 9999 * (999 + 99));
        SupplyContract z = Checks.contract("contract 40 0 999 99;miss 999;demand 9999;");
        Checks.due("the smallest costs", z.projected(), -40L * 9999 * 999);
    }

    /** Tries each level by reserve, projected and undo. */
    private static int bestLevel(SupplyContract x, int limit) {
        int best = 0;
        long least = Long.MAX_VALUE;
        for (int level = 0; level <= limit; level++) {
            x.reserve(x.clock() + 1, level);
            long costs = x.projected();
            x.undo();
            if (costs < least) {
                least = costs;
                best = level;
            }
        }
        return best;
    }

    @Sentence(in = "Promise 27", says = "Finds the best reservation: for each level from 0 to limit, consider "
        + "projected() if all periods after the current one had this reserved capacity.")
    static void eachLevelFrom0ToTheLimit() {
        String[] texts = {TEXT, "contract 9 4 3 1;spot 3 9;window 6;minimum 70;miss 8;demand 3+season*7;",
            "contract 5 90 7 1;spot 30 9;window 1;minimum 100;demand 40-9*period;"};
        for (String text : texts) {
            SupplyContract x = Checks.contract(text);
            x.order(30);
            x.reserve(2, 17);
            while (x.clock() + 1 < x.periodCount()) {
                int clock = x.clock();
                SupplyContract y = Checks.contract(text);
                y.order(30);
                y.reserve(2, 17);
                for (int k = 0; k < clock; k++) {
                    y.close();
                }
                Checks.due(text + " in period " + clock, x.bestReserved(40), bestLevel(y, 40));
                x.close();
            }
        }
    }

    @Sentence(in = "Promise 27", says = "for each level from 0 to limit")
    static void theFirstAndTheLastLevel() {
        SupplyContract more = Checks.contract("contract 3 10 5 2;spot 9999 9;demand 9999;");
        SupplyContract less = Checks.contract("contract 3 10 5 2;spot 9999 1;demand 9999;");
        for (int limit : new int[] {0, 1, 499, 500}) {
            Checks.due("the limit " + limit, more.bestReserved(limit), limit);
            Checks.due("none of " + limit, less.bestReserved(limit), 0);
        }
    }

    @Sentence(in = "Promise 27", says = "(The current period keeps its own.)")
    static void theCurrentPeriodKeepsItsOwn() {
        // All demand is in the current period: a reservation of the later ones only costs.
        SupplyContract x = Checks.contract("contract 3 0 1 1;spot 9999 9;demand 50-50*period;");
        Checks.due("demand of the current period", x.bestReserved(500), 0);
        SupplyContract y = Checks.contract("contract 3 20 1 1;spot 9999 9;window 1;demand 50-50*period;");
        Checks.due("30 units are left for the next period", y.bestReserved(500), 30);
        SupplyContract z = Checks.contract("contract 3 50 1 1;spot 9999 9;window 1;demand 50-50*period;");
        Checks.due("nothing is left", z.bestReserved(500), 0);
    }

    @Sentence(in = "Promise 27", says = "projected()")
    static void bestReservedChangesNothing() {
        SupplyContract x = Checks.contract(TEXT);
        x.order(30);
        x.close();
        String before = Seen.state(x);
        x.bestReserved(500);
        x.bestReserved(0);
        Checks.dueText("state", Seen.state(x), before);
        Checks.due("undo", x.undo(), 2);
    }

    @Sentence(in = "Promise 27", says = "- `limit`: 0 to 500")
    static void theLimit() {
        SupplyContract x = Checks.contract("contract 3 10 5 2;spot 9999 9;demand 9999;");
        Checks.due("0", x.bestReserved(0), 0);
        Checks.due("500", x.bestReserved(500), 500);
    }

    @Sentence(in = "Promise 27",
        says = "Returns the level with the smallest projected costs, the smallest one of several.")
    static void theSmallestOfSeveralLevels() {
        Checks.due("all levels cost the same",
            Checks.contract("contract 3 10 5 4;spot 9999 9;demand 500;").bestReserved(500), 0);
        Checks.due("free capacity beyond the demand",
            Checks.contract("contract 3 10 5 0;spot 9999 9;demand 20;").bestReserved(500), 20);
        Checks.due("no costs at all", Checks.contract("contract 3 10 0 0;").bestReserved(500), 0);
        Checks.due("one level is the best",
            Checks.contract("contract 3 10 5 2;spot 9999 9;demand 20+period;").bestReserved(500), 21);
        Checks.due("costs below 0",
            Checks.contract("contract 3 10 5 2;miss 9;demand 20;").bestReserved(500), 0);
    }

    @Sentence(in = "Promise 27", says = "Throws `IllegalArgumentException` if limit is out of range")
    static void wrongLimits() {
        SupplyContract x = Checks.contract("contract 2 10 5 2;");
        for (int limit : new int[] {-1, 501, Integer.MIN_VALUE, Integer.MAX_VALUE}) {
            Checks.throwsArgument("limit " + limit, () -> x.bestReserved(limit));
        }
    }

    private static void noLaterPeriod(String what, Consumer<SupplyContract> recipe) {
        SupplyContract x = new SupplyContract();
        recipe.accept(x);
        Checks.throwsState(what + ": 0", () -> x.bestReserved(0));
        Checks.throwsState(what + ": 500", () -> x.bestReserved(500));
    }

    @Sentence(in = "Promise 27", says = "Throws `IllegalStateException` if there is no period after the current one")
    static void noPeriodAfterTheCurrentOne() {
        noLaterPeriod("no contract", x -> { });
        SupplyContract y = Checks.contract("contract 2 10 5 2;");
        Checks.due("the last period but one", y.bestReserved(0), 0);
        noLaterPeriod("the last period", x -> {
            Checks.load(x, "contract 2 10 5 2;");
            x.close();
        });
        noLaterPeriod("after the end", x -> {
            Checks.load(x, "contract 2 10 5 2;");
            x.close();
            x.close();
        });
        noLaterPeriod("the last period of 40", x -> {
            Checks.load(x, "contract 40 10 5 2;");
            for (int p = 0; p < 39; p++) {
                x.close();
            }
        });
    }
}

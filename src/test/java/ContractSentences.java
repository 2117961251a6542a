/** The sentences of "What it is", "Conventions" and "The contract". */
final class ContractSentences {
    private ContractSentences() {
    }

    @Sentence(in = "What it is", says = "An object is used for at most 512 calls after it has been made; "
        + "what later calls answer is free.")
    static void the512thCallAnswers() {
        SupplyContract x = new SupplyContract();
        int calls = 1;
        Checks.append(x, "contract 2 10 5 2;");
        calls++;
        x.load(18);
        while (calls < 511) {
            calls++;
            x.forecast(1, calls);
        }
        Checks.due("the 512th call", x.forecastOf(1), 511);
    }

    @Sentence(in = "What it is", says = "An object is used for at most 512 calls after it has been made")
    static void the512thOfTheDearestCallsAnswers() {
        SupplyContract x = new SupplyContract();
        Checks.append(x, "contract 40 1 5 2; spot 9999 9; window 0;demand 500;");
        x.load(52);
        for (int calls = 5; calls <= 512; calls++) {
            Checks.due("call " + calls, x.bestReserved(500), 500);
        }
    }

    @Sentence(in = "Conventions", says = "All numbers are integers.")
    static void halvesAreNotKept() {
        SupplyContract x = Checks.contract("contract 2 1 1 0;minimum 50;demand 0;");
        Checks.due("half a unit is none", x.close(), 0);
        Checks.due("half a unit again", x.close(), 0);
        Checks.due("two halves are none", x.balance(), 0);
    }

    @Sentence(in = "Conventions", says = "Division rounds down;")
    static void divisionRoundsDown() {
        SupplyContract x = Checks.contract("contract 4 199 1 0;band 0 1 1;ladder 0 0 50 1;minimum 1;demand 0;");
        Checks.due("99 / 100: smallest", x.allowed(0, 99, false), 99);
        Checks.due("99 / 100: greatest", x.allowed(0, 99, true), 99);
        Checks.due("100 / 100: smallest", x.allowed(0, 100, false), 99);
        Checks.due("100 / 100: greatest", x.allowed(0, 100, true), 101);
        Checks.due("199 / 100: smallest", x.allowed(0, 199, false), 198);
        Checks.due("199 / 100: greatest", x.allowed(0, 199, true), 200);
        Checks.due("5000 / 101 is 49", x.penaltyFor(50, 101), 0);
        Checks.due("5000 / 100 is 50", x.penaltyFor(50, 100), 50);
        Checks.due("199 / 100 is 1", x.close(), 1);
    }

    @Sentence(in = "Conventions", says = "all dividends are 0 or more except in the demand expression.")
    static void onlyDemandHasNegativeDividends() {
        Setups.forecasts("10+(0-7)/2", 7, 7, 7, 7, 7, 7);
        SupplyContract x = Checks.contract("contract 2 0 1 0;band 0 100 100;ladder 0 1;minimum 100;demand 0;");
        Checks.due("the dividend 0: smallest", x.allowed(0, 0, false), 0);
        Checks.due("the dividend 0: greatest", x.allowed(0, 0, true), 0);
        Checks.due("the dividend 0: penalty", x.penaltyFor(0, 5), 0);
        Checks.due("the dividend 0: minimum", x.close(), 0);
    }

    @Sentence(in = "Conventions", says = "Periods have the numbers 0 to n - 1.")
    static void periodsHaveTheNumbers0ToN1() {
        for (int n : new int[] {2, 3, 39, 40}) {
            SupplyContract x = Checks.contract("contract " + n + " 10 1 0;demand period;");
            Checks.due("the first of " + n, x.forecastOf(0), 0);
            Checks.due("the last of " + n, x.forecastOf(n - 1), n - 1);
            Checks.throwsIndex("before the first of " + n, () -> x.forecastOf(-1));
            Checks.throwsIndex("after the last of " + n, () -> x.forecastOf(n));
        }
    }

    @Sentence(in = "Conventions", says = "The clock is the current period; it is n when the contract has ended.")
    static void theClockGoesFrom0ToN() {
        for (int n : new int[] {2, 40}) {
            SupplyContract x = Checks.contract("contract " + n + " 10 1 0;");
            for (int p = 0; p < n; p++) {
                Checks.due("clock", x.clock(), p);
                x.order(p);
                Checks.due("the order is one of the current period", x.orderOf(p), p);
                x.close();
            }
            Checks.due("clock at the end", x.clock(), n);
            Checks.throwsState("no period is left", x::close);
            Checks.due("clock stays", x.clock(), n);
        }
    }

    @Sentence(in = "Conventions", says = "Breaches have indexes from 0 in the order in which they are recorded.")
    static void breachesAreInTheirOrder() {
        SupplyContract x = Checks.contract("contract 4 10 1 0;band 0 0 0;ladder 0 1;");
        x.forecast(3, 11);
        x.forecast(1, 12);
        x.order(13);
        x.forecast(2, 14);
        int[] periods = {3, 1, 0, 2};
        for (int b = 0; b < 4; b++) {
            Checks.due("period of " + b, x.breachPeriod(b), periods[b]);
            Checks.due("penalty of " + b, x.breachPenalty(b), b + 1);
        }
        Checks.throwsIndex("none before 0", () -> x.breachPeriod(-1));
    }

    @Sentence(in = "The contract", says = "There are 2 to 40 periods,")
    static void from2To40Periods() {
        Setups.range("contract ", 2, 40, " 5 6 7;");
        Checks.due("2", Checks.contract("contract 2 5 6 7;").periodCount(), 2);
        Checks.due("40", Checks.contract("contract 40 5 6 7;").periodCount(), 40);
    }

    @Sentence(in = "The contract", says = "a unit price (0 to 999)")
    static void theUnitPrice() {
        Setups.range("contract 2 5 ", 0, 999, " 7;");
        Checks.due("0", Checks.contract("contract 2 5 0 0;").close(), 0);
        Checks.due("999", Checks.contract("contract 2 5 999 0;").close(), 5 * 999);
    }

    @Sentence(in = "The contract", says = "and a reservation fee (0 to 99 for each reserved unit and period).")
    static void theReservationFee() {
        Setups.range("contract 2 5 6 ", 0, 99, ";");
        SupplyContract x = Checks.contract("contract 2 5 0 99;demand 3;");
        Checks.due("99 for each reserved unit", x.close(), 5 * 99);
        Checks.due("and for each period", x.close(), 5 * 99);
        Checks.due("0", Checks.contract("contract 2 5 0 0;demand 3;").close(), 0);
        Checks.due("no reserved unit", Checks.contract("contract 2 0 0 99;demand 3;").close(), 0);
    }

    @Sentence(in = "The contract", says = "Each period has a reserved capacity (0 to 9999 units),")
    static void theReservedCapacity() {
        Setups.range("contract 2 ", 0, 9999, " 6 7;");
        SupplyContract x = Checks.contract("contract 3 9999 6 7;");
        Checks.due("the first period", x.reservedIn(0), 9999);
        Checks.due("the last period", x.reservedIn(2), 9999);
        x.reserve(2, 0);
        Checks.due("another one in each period", x.reservedIn(2), 0);
        Checks.due("the others stay", x.reservedIn(1), 9999);
        x.reserve(2, 9999);
        Checks.due("9999 again", x.reservedIn(2), 9999);
    }

    @Sentence(in = "The contract", says = "a forecast (0 to 9999 units),")
    static void theForecast() {
        Checks.due("0", Checks.contract("contract 2 5 6 7;demand 0;").forecastOf(1), 0);
        SupplyContract x = Checks.contract("contract 3 5 6 7;demand 9999;");
        Checks.due("9999", x.forecastOf(1), 9999);
        x.forecast(1, 0);
        Checks.due("0 for one period", x.forecastOf(1), 0);
        Checks.due("the others stay", x.forecastOf(2), 9999);
        x.forecast(1, 9999);
        Checks.due("9999 again", x.forecastOf(1), 9999);
    }

    @Sentence(in = "The contract", says = "and, once it has been placed, an order (0 to 9999 units).")
    static void theOrder() {
        SupplyContract x = Checks.contract("contract 3 5 6 7;");
        Checks.due("not yet placed", x.orderOf(0), -1);
        x.order(0);
        Checks.due("an order of 0 has been placed", x.orderOf(0), 0);
        x.close();
        x.order(9999);
        Checks.due("an order of 9999", x.orderOf(1), 9999);
        Checks.due("the next one is not yet placed", x.orderOf(2), -1);
    }

    @Sentence(in = "The contract",
        says = "The spot limit (0 to 9999) is the number of units that can be bought at the spot market in one period;")
    static void theSpotLimit() {
        Setups.range(Setups.HEAD + "spot ", 0, 9999, " 5;");
        SupplyContract x = Checks.contract("contract 4 0 0 0;spot 7 1;");
        int[] orders = {7, 8, 6, 7};
        int[] bought = {7, 7, 6, 7};
        for (int p = 0; p < 4; p++) {
            x.order(orders[p]);
            Checks.due("bought in " + p, x.close(), bought[p]);
            Checks.due("missed in " + p, x.missedUnits(p), orders[p] - bought[p]);
        }
        SupplyContract none = Checks.contract("contract 2 0 0 0;spot 0 1;");
        none.order(1);
        Checks.due("a limit of 0", none.close(), 0);
        Checks.due("a limit of 0: missed", none.missedUnits(0), 1);
        SupplyContract most = Checks.contract("contract 2 0 0 0;spot 9999 1;");
        most.order(9999);
        Checks.due("a limit of 9999", most.close(), 9999);
        Checks.due("a limit of 9999: missed", most.missedUnits(0), 0);
    }

    @Sentence(in = "The contract", says = "the spot price is 0 to 999.")
    static void theSpotPrice() {
        Setups.range(Setups.HEAD + "spot 5 ", 0, 999, ";");
        Checks.due("0", Checks.contract("contract 2 0 0 0;spot 5 0;demand 4;").close(), 0);
        Checks.due("999", Checks.contract("contract 2 0 0 0;spot 5 999;demand 4;").close(), 4 * 999);
    }

    @Sentence(in = "The contract", says = "The window (0 to 6) says how many periods later an order may be delivered:")
    static void theWindow() {
        Setups.range(Setups.HEAD + "window ", 0, 6, ";");
        SupplyContract x = Checks.contract("contract 2 1 1 0;window 0;demand 0;");
        x.order(2);
        x.close();
        Checks.due("a window of 0: not later", x.missedUnits(0), 1);
    }

    @Sentence(in = "The contract",
        says = "the order of period p can be delivered in the periods p to p + window.")
    static void anOrderIsDeliveredFromPToPPlusWindow() {
        for (int window = 0; window <= 6; window++) {
            SupplyContract x = Checks.contract("contract 12 1 1 0;window " + window + ";demand 0;");
            x.close();
            x.close();
            x.order(9);
            String what = "window " + window + ", period ";
            for (int p = 2; p < 2 + window; p++) {
                Checks.due(what + p + ": one unit is delivered", x.close(), 1);
                Checks.due(what + p + ": open", x.openUnits(2), 9 - (p - 1));
                Checks.due(what + p + ": missed", x.missedUnits(2), 0);
            }
            Checks.due(what + "p + window: the last unit", x.close(), 1);
            Checks.due(what + "p + window: open", x.openUnits(2), 0);
            Checks.due(what + "p + window: missed", x.missedUnits(2), 9 - (window + 1));
            Checks.due(what + "p + window + 1: nothing any more", x.close(), 0);
            Checks.due(what + "p + window + 1: missed", x.missedUnits(2), 9 - (window + 1));
        }
    }

    @Sentence(in = "The contract", says = "The minimum (0 to 100 percent) is the part of the reserved capacity "
        + "that has to be paid in any case.")
    static void theMinimum() {
        Setups.range(Setups.HEAD + "minimum ", 0, 100, ";");
        int[] orders = {0, 49, 50, 51};
        int[] paidAt100 = {50, 50, 50, 50};
        int[] paidAt0 = {0, 49, 50, 50};
        SupplyContract x = Checks.contract("contract 4 50 3 0;minimum 100;");
        SupplyContract y = Checks.contract("contract 4 50 3 0;minimum 0;");
        for (int p = 0; p < 4; p++) {
            x.order(orders[p]);
            y.order(orders[p]);
            Checks.due("100 percent, order " + orders[p], x.close(), 3 * paidAt100[p]);
            Checks.due("0 percent, order " + orders[p], y.close(), 3 * paidAt0[p]);
        }
    }

    @Sentence(in = "The contract",
        says = "The miss price (0 to 999) is the credit that the buyer gets for each missed unit.")
    static void theMissPrice() {
        Setups.range(Setups.HEAD + "miss ", 0, 999, ";");
        Checks.due("999", Checks.contract("contract 2 0 0 0;miss 999;demand 2;").close(), -2 * 999);
        Checks.due("0", Checks.contract("contract 2 0 0 0;miss 0;demand 2;").close(), 0);
        Checks.due("nothing missed", Checks.contract("contract 2 2 0 0;miss 999;demand 2;").close(), 0);
    }
}

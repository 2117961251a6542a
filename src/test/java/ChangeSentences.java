/** The sentences of "Changes" about undo, and those of "The constants". */
final class ChangeSentences {
    private static final String IN = "Changes";
    private static final String TEXT = "contract 20 10 1 0;band 0 0 0;ladder 0 1;waivers 2 0;";

    private ChangeSentences() {
    }

    @Sentence(in = IN,
        says = "The changing methods are load (when it succeeds), forecast, order, close, reserve and waive.")
    static void theChangingMethods() {
        SupplyContract x = new SupplyContract();
        Checks.load(x, TEXT);
        x.forecast(1, 11);
        x.order(10);
        x.close();
        x.reserve(5, 7);
        x.waive(0);
        Checks.due("waive", x.undo(), 5);
        Checks.holds("waive is undone", !x.isWaived(0));
        Checks.due("reserve", x.undo(), 4);
        Checks.due("reserve is undone", x.reservedIn(5), 10);
        Checks.due("close", x.undo(), 3);
        Checks.due("close is undone", x.clock(), 0);
        Checks.due("order", x.undo(), 2);
        Checks.due("order is undone", x.orderOf(0), -1);
        Checks.due("forecast", x.undo(), 1);
        Checks.due("forecast is undone", x.forecastOf(1), 10);
        Checks.due("its breach is undone", x.allBreaches(), 0);
        Checks.due("load", x.undo(), 0);
        Checks.due("load is undone", x.periodCount(), 0);
    }

    @Sentence(in = IN, says = "load (when it succeeds)")
    static void aLoadWithAnErrorIsNoChange() {
        SupplyContract x = Checks.contract(TEXT);
        x.close();
        for (String text : new String[] {"", "x", "contract 1 1 1 1;", TEXT + "ladder"}) {
            Checks.holds("an error", Checks.load(x, text) < 0);
        }
        Checks.due("the latest change is close", x.undo(), 1);
        Checks.due("clock", x.clock(), 0);
    }

    @Sentence(in = IN, says = "The changing methods are")
    static void changesWithoutEffectAreChanges() {
        SupplyContract x = Checks.contract(TEXT);
        x.forecast(1, 10);
        x.reserve(1, 10);
        Checks.load(x, TEXT);
        Checks.due("load of the same text", x.undo(), 3);
        Checks.due("a reservation of the same capacity", x.undo(), 2);
        Checks.due("a forecast of the same quantity", x.undo(), 1);
    }

    @Sentence(in = IN, says = "The changing methods are")
    static void theOtherMethodsChangeNothing() {
        SupplyContract x = Checks.contract(TEXT);
        x.forecast(1, 12);
        String before = Seen.state(x);
        x.append(1, 2, 3, 4, 5);
        Checks.dueText("each asking method once more", Seen.state(x), before);
        Checks.due("none of them is a change", x.undo(), 1);
        Checks.due("and neither is undo", x.undo(), 0);
    }

    @Sentence(in = IN, says = "The latest 8 changes that have not been undone can be undone,")
    static void theLatest8Changes() {
        for (int changes = 1; changes <= 20; changes++) {
            SupplyContract x = Checks.contract("contract 40 10 1 0;");
            for (int k = 1; k < changes; k++) {
                x.close();
            }
            int possible = Math.min(changes, 8);
            for (int left = possible - 1; left >= 0; left--) {
                Checks.due(changes + " changes", x.undo(), left);
            }
            Checks.due(changes + " changes: no more", x.undo(), -1);
            Checks.due(changes + " changes: clock", x.clock(), Math.max(0, changes - 1 - possible));
            Checks.due(changes + " changes: periods", x.periodCount(), changes > 8 ? 40 : 0);
        }
    }

    @Sentence(in = IN, says = "that have not been undone")
    static void newChangesAfterUndo() {
        SupplyContract x = Checks.contract("contract 40 10 1 0;");
        for (int k = 1; k <= 4; k++) {
            x.forecast(1, 100 + k);
        }
        Checks.due("5 changes, one undone", x.undo(), 4);
        Checks.due("two undone", x.undo(), 3);
        x.forecast(1, 200);
        Checks.due("the new change first", x.undo(), 3);
        Checks.due("then the older ones", x.undo(), 2);
        Checks.due("what was undone does not come back", x.forecastOf(1), 101);
        for (int k = 1; k <= 6; k++) {
            x.forecast(1, 300 + k);
        }
        Checks.due("8 changes in all", x.undo(), 7);
        for (int left = 6; left >= 2; left--) {
            Checks.due("the new ones", x.undo(), left);
        }
        Checks.due("the old forecast", x.forecastOf(1), 101);
        Checks.due("the old change", x.undo(), 1);
        Checks.due("the first forecast", x.forecastOf(1), 10);
        Checks.due("load", x.undo(), 0);
        Checks.due("no more", x.undo(), -1);
    }

    @Sentence(in = IN, says = "The latest 8 changes that have not been undone can be undone,")
    static void aNinthChangeMakesTheOldestFinal() {
        SupplyContract x = Checks.contract("contract 40 10 1 0;");
        for (int k = 1; k <= 8; k++) {
            x.forecast(1, 100 + k);
        }
        for (int left = 7; left >= 4; left--) {
            Checks.due("undo", x.undo(), left);
        }
        for (int k = 5; k <= 7; k++) {
            x.forecast(1, 200 + k);
        }
        for (int left = 6; left >= 0; left--) {
            Checks.due("undo again", x.undo(), left);
        }
        Checks.due("the load is final", x.undo(), -1);
        Checks.due("its forecast", x.forecastOf(1), 10);
        Checks.due("its periods", x.periodCount(), 40);
    }

    @Sentence(in = IN, says = "the latest one first.")
    static void theLatestOneFirst() {
        SupplyContract x = Checks.contract("contract 40 10 1 0;");
        for (int k = 1; k <= 30; k++) {
            x.forecast(1, 100 + k);
        }
        for (int k = 29; k >= 22; k--) {
            x.undo();
            Checks.due("forecast", x.forecastOf(1), 100 + k);
        }
        Checks.due("no more", x.undo(), -1);
        Checks.due("forecast stays", x.forecastOf(1), 122);
    }

    @Sentence(in = IN, says = "Before the first successful load there is no contract: "
        + "there are no periods and breaches, and the clock is 0.")
    static void noContractAtFirst() {
        SupplyContract x = new SupplyContract();
        noContract("new", x);
        Checks.holds("an error", Checks.load(x, "contract 2 1 1 1;spot") < 0);
        noContract("after a load with an error", x);
        Checks.throwsArgument("a refused load", () -> x.load(1));
        noContract("after a refused load", x);
        Checks.load(x, TEXT);
        x.order(12);
        x.waive(0);
        x.close();
        for (int k = 0; k < 4; k++) {
            x.undo();
        }
        noContract("after all is undone", x);
    }

    private static void noContract(String what, SupplyContract x) {
        Checks.due(what + ": periods", x.periodCount(), 0);
        Checks.due(what + ": clock", x.clock(), 0);
        Checks.due(what + ": breaches", x.breachCount(), 0);
        Checks.due(what + ": all breaches", x.allBreaches(), 0);
        Checks.due(what + ": balance", x.balance(), 0);
        Checks.due(what + ": projected", x.projected(), 0);
        Checks.due(what + ": waivers", x.waiversLeft(), 0);
        Checks.due(what + ": best waiving", x.bestWaiving(), 0);
        Checks.due(what + ": best waiver", x.bestWaiver(0), -1);
        Checks.due(what + ": band", x.bandFor(0), -1);
        Checks.due(what + ": smallest", x.allowed(0, 50, false), 0);
        Checks.due(what + ": greatest", x.allowed(0, 50, true), 9999);
        Checks.due(what + ": penalty", x.penaltyFor(50, 50), 0);
        Checks.due(what + ": checksum", x.checksum(), 0);
        Checks.throwsIndex(what + ": no period", () -> x.reservedIn(0));
        Checks.throwsIndex(what + ": no breach", () -> x.breachPenalty(0));
        Checks.throwsIndex(what + ": no breach to waive", () -> x.waive(0));
        Checks.throwsIndex(what + ": no period to forecast", () -> x.forecast(0, 1));
        Checks.throwsIndex(what + ": no period to reserve", () -> x.reserve(0, 1));
        Checks.throwsState(what + ": no order", () -> x.order(1));
        Checks.throwsState(what + ": no close", x::close);
        Checks.throwsState(what + ": no best reservation", () -> x.bestReserved(0));
    }

    @Sentence(in = "The constants",
        says = "- `SYNTAX_ERROR = -2`: Error code of load: the text does not follow the grammar.")
    static void syntaxError() {
        Checks.due("the constant", SupplyContract.SYNTAX_ERROR, -2);
        Checks.due("the code", Checks.load(new SupplyContract(), "contract;"), -2);
    }

    @Sentence(in = "The constants", says = "- `OUT_OF_RANGE = -3`: Error code of load: a number is not allowed.")
    static void outOfRange() {
        Checks.due("the constant", SupplyContract.OUT_OF_RANGE, -3);
        Checks.due("the code", Checks.load(new SupplyContract(), "contract 1 1 1 1;"), -3);
    }

    @Sentence(in = "The constants", says = "- `TOO_MANY = -4`: Error code of load: too many steps of the ladder.")
    static void tooMany() {
        Checks.due("the constant", SupplyContract.TOO_MANY, -4);
        String text = "contract 2 1 1 1;ladder 1 1 2 2 3 3 4 4 5 5 6 6 7 7;";
        Checks.due("the code", Checks.load(new SupplyContract(), text), -4);
    }

    @Sentence(in = "The constants",
        says = "- `TOO_DEEP = -5`: Error code of load: parentheses are nested too deeply.")
    static void tooDeep() {
        Checks.due("the constant", SupplyContract.TOO_DEEP, -5);
        Checks.due("the code", Checks.load(new SupplyContract(), "contract 2 1 1 1;demand (((((1)))));"), -5);
    }
}

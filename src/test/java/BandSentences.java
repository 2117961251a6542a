/** The sentences of "Bands and penalties". */
final class BandSentences {
    private static final String IN = "Bands and penalties";

    private BandSentences() {
    }

    @Sentence(in = IN, says = "A band has a lead (0 to 39), a low and a high percentage (0 to 100).")
    static void theNumbersOfABand() {
        Setups.range(Setups.HEAD + "band ", 0, 39, " 10 20;");
        Setups.range(Setups.HEAD + "band 3 ", 0, 100, " 20;");
        Setups.range(Setups.HEAD + "band 3 10 ", 0, 100, ";");
        SupplyContract x = Checks.contract("contract 4 5 6 7;band 39 100 100;band 0 0 0;");
        Checks.due("lead 39", x.bandFor(39), 39);
        Checks.due("100 percent less", x.allowed(39, 77, false), 0);
        Checks.due("100 percent more", x.allowed(39, 77, true), 154);
        Checks.due("lead 0", x.bandFor(0), 0);
        Checks.due("0 percent less", x.allowed(0, 77, false), 77);
        Checks.due("0 percent more", x.allowed(0, 77, true), 77);
    }

    @Sentence(in = IN, says = "There is at most one band for each lead.")
    static void oneBandForEachLead() {
        for (int lead : new int[] {0, 7, 31, 32, 39}) {
            String first = Setups.HEAD + "band " + lead + " 1 2;";
            Setups.accepted(first + "band " + (lead + 1) % 40 + " 1 2;");
            Setups.outside(first + "band " + lead + " 3 4;", first.length() + 5);
            Setups.outside(first + "band 00" + lead + " 1 2;", first.length() + 5);
        }
    }

    @Sentence(in = IN, says = "For a lead d, the band that applies is the one with the greatest lead "
        + "that is not greater than d;")
    static void theBandThatApplies() {
        SupplyContract x = Checks.contract("contract 20 100 1 0;band 10 3 3;band 3 1 1;band 32 5 5;ladder 0 1;");
        int[] leads = {3, 4, 9, 10, 11, 31, 32, 39};
        int[] bands = {3, 3, 3, 10, 10, 10, 32, 32};
        for (int k = 0; k < leads.length; k++) {
            Checks.due("lead " + leads[k], x.bandFor(leads[k]), bands[k]);
        }
        Checks.due("lead 9 allows 1 percent", x.forecast(9, 103), 2);
        Checks.due("lead 10 allows 3 percent", x.forecast(10, 103), 0);
        Checks.due("lead 11 allows 3 percent", x.forecast(11, 97), 0);
    }

    @Sentence(in = IN, says = "if there is none, every quantity is allowed.")
    static void withoutABandEverythingIsAllowed() {
        SupplyContract x = Checks.contract("contract 4 100 1 0;band 2 0 0;ladder 0 9;");
        Checks.due("nothing", x.forecast(1, 0), 0);
        Checks.due("everything, from a forecast of 0", x.forecast(1, 9999), 0);
        Checks.due("an order of everything", x.order(9999), 0);
        Checks.due("no breach", x.allBreaches(), 0);
        Checks.due("the next lead has a band", x.forecast(2, 101), 9);
        SupplyContract y = Checks.contract("contract 4 100 1 0;band 2 0 0;ladder 0 9;");
        Checks.due("an order of nothing", y.order(0), 0);
        Checks.due("no breach by it", y.allBreaches(), 0);
    }

    @Sentence(in = IN,
        says = "Let f be the forecast of a period, and low and high the percentages of the band that applies.")
    static void theForecastOfThePeriodCounts() {
        SupplyContract x = Checks.contract("contract 3 1 1 0;band 0 10 30;ladder 0 1;demand 100+100*period;");
        Checks.due("200 - 20", x.forecast(1, 180), 0);
        Checks.due("300 - 30", x.forecast(2, 270), 0);
        Checks.due("270 + 81", x.forecast(2, 351), 0);
        Checks.due("351 + 105 is exceeded by 1", x.forecast(2, 457), 1);
        Checks.due("180 - 18 is undercut by 2", x.forecast(1, 160), 2);
        Checks.due("the order of a period with 100: 130 is exceeded by 3", x.order(133), 3);
    }

    @Sentence(in = IN, says = "The allowed quantities are those from f - f * low / 100 to f + f * high / 100.")
    static void theAllowedQuantities() {
        int[] forecasts = {0, 1, 6, 7, 99, 100, 101, 9999};
        int[] smallest = {0, 1, 6, 6, 85, 85, 86, 8500};
        int[] greatest = {0, 1, 7, 9, 131, 133, 134, 13298};
        for (int k = 0; k < forecasts.length; k++) {
            String text = "contract 2 1 1 0;band 0 15 33;demand " + forecasts[k] + ";";
            SupplyContract x = Checks.contract(text);
            Checks.due(text + " smallest", x.allowed(0, forecasts[k], false), smallest[k]);
            Checks.due(text + " greatest", x.allowed(0, forecasts[k], true), greatest[k]);
            breaches(text, smallest[k], 0);
            breaches(text, smallest[k] - 1, 1);
            breaches(text, greatest[k], 0);
            breaches(text, greatest[k] + 1, 1);
        }
    }

    private static void breaches(String text, int quantity, int want) {
        if (quantity >= 0 && quantity <= 9999) {
            SupplyContract x = Checks.contract(text);
            x.order(quantity);
            Checks.due(text + " order " + quantity, x.allBreaches(), want);
            SupplyContract y = Checks.contract(text);
            y.forecast(1, quantity);
            Checks.due(text + " forecast " + quantity, y.allBreaches(), want);
        }
    }

    @Sentence(in = IN, says = "The excess of a quantity is its distance from the nearest allowed quantity "
        + "(0 if it is allowed).")
    static void theExcess() {
        int[] quantities = {0, 88, 89, 90, 100, 120, 121, 122, 9999};
        int[] excess = {90, 2, 1, 0, 0, 0, 1, 2, 9879};
        for (int k = 0; k < quantities.length; k++) {
            // The price of 1 for each unit makes the penalty the excess.
            SupplyContract x = Checks.contract("contract 2 100 1 0;band 0 10 20;ladder 0 1;");
            Checks.due("forecast " + quantities[k], x.forecast(1, quantities[k]), excess[k]);
            Checks.due("order " + quantities[k], x.order(quantities[k]), excess[k]);
            Checks.due("breaches by " + quantities[k], x.allBreaches(), excess[k] == 0 ? 0 : 2);
        }
    }

    @Sentence(in = IN, says = "The ladder consists of at most 6 steps;")
    static void atMost6Steps() {
        String six = Setups.HEAD + "ladder 1 11 2 12 3 13 4 14 5 15 6 16";
        SupplyContract x = Checks.contract(six + ";");
        Checks.due("below all steps", x.penaltyFor(1, 200), 0);
        for (int step = 1; step <= 6; step++) {
            Checks.due("step " + step, x.penaltyFor(step, 100), step * (10 + step));
        }
        Checks.due("above all steps", x.penaltyFor(7, 100), 7 * 16);
        Setups.refused(six + " 7 17;", SupplyContract.TOO_MANY, six.length() + 1);
        Checks.due("one step", Checks.contract(Setups.HEAD + "ladder 1 11;").penaltyFor(50, 100), 550);
    }

    @Sentence(in = IN, says = "a step has a percentage (0 to 999) and a price (0 to 999).")
    static void theNumbersOfAStep() {
        Setups.range(Setups.HEAD + "ladder ", 0, 999, " 5;");
        Setups.range(Setups.HEAD + "ladder 5 ", 0, 999, ";");
        Setups.range(Setups.HEAD + "ladder 5 6 ", 6, 999, " 5;");
        Setups.range(Setups.HEAD + "ladder 5 6 7 ", 0, 999, ";");
        SupplyContract x = Checks.contract(Setups.HEAD + "ladder 0 999 1 0 999 998;");
        Checks.due("0 percent, 999", x.penaltyFor(1, 101), 999);
        Checks.due("1 percent, 0", x.penaltyFor(1, 100), 0);
        Checks.due("998 percent, 0", x.penaltyFor(998, 100), 0);
        Checks.due("999 percent, 998", x.penaltyFor(999, 100), 999 * 998);
    }

    @Sentence(in = IN, says = "If the excess is not 0, there is a breach.")
    static void anExcessIsABreach() {
        SupplyContract x = Checks.contract("contract 2 100 1 0;band 0 0 0;");
        x.forecast(1, 100);
        Checks.due("no excess", x.allBreaches(), 0);
        x.forecast(1, 101);
        Checks.due("an excess of 1 above", x.allBreaches(), 1);
        x.forecast(1, 100);
        Checks.due("an excess of 1 below", x.allBreaches(), 2);
        x.order(99);
        Checks.due("an order below", x.allBreaches(), 3);
        Checks.due("recorded without any ladder", x.breachCount(), 3);
        Checks.due("without a penalty", x.breachPenalty(2), 0);
    }

    @Sentence(in = IN, says = "Let c be excess * 100 / f, or excess * 100 if f is 0.")
    static void thePercentageOfTheExcess() {
        SupplyContract x = Checks.contract(Setups.HEAD + "ladder 100 1 101 2 200 3;");
        Checks.due("99 of 100", x.penaltyFor(99, 100), 0);
        Checks.due("100 of 100", x.penaltyFor(100, 100), 100);
        Checks.due("201 of 200 is 100", x.penaltyFor(201, 200), 201);
        Checks.due("101 of 100", x.penaltyFor(101, 100), 202);
        Checks.due("1 of 0 is 100", x.penaltyFor(1, 0), 1);
        Checks.due("2 of 0 is 200", x.penaltyFor(2, 0), 6);
        Checks.due("1 of 1 is 100", x.penaltyFor(1, 1), 1);
        Checks.due("2 of 1 is 200", x.penaltyFor(2, 1), 6);
        Checks.due("9999 of 9999 is 100", x.penaltyFor(9999, 9999), 9999);
        SupplyContract y = Checks.contract("contract 2 1 1 0;band 0 0 0;ladder 100 1 101 2;demand 0;");
        Checks.due("a breach from a forecast of 0", y.forecast(1, 1), 1);
        Checks.due("an order for a forecast of 0", y.order(2), 4);
    }

    @Sentence(in = IN, says = "The penalty is the excess times the price of the step with the greatest percentage "
        + "that is not greater than c,")
    static void theStepThatCounts() {
        SupplyContract x = Checks.contract(Setups.HEAD + "ladder 10 5 20 3 999 7;");
        int[] excess = {10, 11, 19, 20, 21, 998, 999, 1000, 9999};
        int[] price = {5, 5, 5, 3, 3, 3, 7, 7, 7};
        for (int k = 0; k < excess.length; k++) {
            Checks.due(excess[k] + " percent", x.penaltyFor(excess[k], 100), excess[k] * price[k]);
        }
        Checks.due("999900 percent", x.penaltyFor(9999, 0), 9999 * 7);
    }

    @Sentence(in = IN, says = "or 0 if there is no such step.")
    static void noStepNoPenalty() {
        SupplyContract x = Checks.contract("contract 2 100 1 0;band 0 0 0;ladder 10 5;");
        Checks.due("below the first step", x.penaltyFor(9, 100), 0);
        Checks.due("a breach below the first step", x.order(109), 0);
        Checks.due("it is recorded", x.breachCount(), 1);
        Checks.due("no ladder", Checks.contract("contract 2 100 1 0;").penaltyFor(9999, 0), 0);
    }

    @Sentence(in = IN,
        says = "A breach has a period, a kind (1 for a forecast, 2 for an order), an excess, and a penalty.")
    static void whatABreachHas() {
        SupplyContract x = Checks.contract("contract 4 100 1 0;band 0 10 10;ladder 0 2 10 3;");
        x.close();
        Checks.due("forecast", x.forecast(3, 121), 33);
        Checks.due("order", x.order(87), 6);
        Checks.due("period of the forecast", x.breachPeriod(0), 3);
        Checks.due("kind of the forecast", x.breachKind(0), 1);
        Checks.due("penalty of the forecast", x.breachPenalty(0), 33);
        Checks.due("period of the order", x.breachPeriod(1), 1);
        Checks.due("kind of the order", x.breachKind(1), 2);
        Checks.due("penalty of the order", x.breachPenalty(1), 6);
    }

    @Sentence(in = IN, says = "It is waived or not; at first it is not waived.")
    static void atFirstNotWaived() {
        SupplyContract x = Checks.contract("contract 4 100 1 0;band 0 0 0;ladder 0 2;waivers 4 0;");
        x.forecast(1, 101);
        Checks.holds("at first", !x.isWaived(0));
        x.waive(0);
        Checks.holds("waived", x.isWaived(0));
        x.undo();
        x.undo();
        x.forecast(2, 102);
        Checks.holds("another breach at the place of a waived one", !x.isWaived(0));
        Checks.due("all waivers are left", x.waiversLeft(), 4);
    }

    /** 20 breaches with a penalty of 2 each, all of period 1. */
    private static SupplyContract twenty() {
        SupplyContract x = Checks.contract("contract 2 10 1 0;band 0 0 0;ladder 0 2;waivers 4 0;");
        for (int k = 1; k <= 20; k++) {
            x.forecast(1, 10 + k);
        }
        return x;
    }

    @Sentence(in = IN, says = "At most 20 breaches are recorded;")
    static void atMost20AreRecorded() {
        SupplyContract x = twenty();
        Checks.due("20", x.breachCount(), 20);
        Checks.due("the 20th has a penalty", x.breachPenalty(19), 2);
        x.forecast(1, 40);
        Checks.due("not 21", x.breachCount(), 20);
        Checks.throwsIndex("the 21st", () -> x.breachPenalty(20));
        x.undo();
        x.undo();
        Checks.due("19 again", x.breachCount(), 19);
        Checks.due("room for the 20th again", x.forecast(1, 30), 2);
        Checks.due("20 again", x.breachCount(), 20);
    }

    @Sentence(in = IN, says = "further breaches are only counted:")
    static void furtherBreachesAreCounted() {
        SupplyContract x = twenty();
        Checks.due("20", x.allBreaches(), 20);
        x.forecast(1, 40);
        Checks.due("21", x.allBreaches(), 21);
        Checks.due("the forecast counts", x.forecastOf(1), 40);
        x.order(11);
        Checks.due("22", x.allBreaches(), 22);
        Checks.due("the order counts", x.orderOf(0), 11);
        Checks.due("20 recorded", x.breachCount(), 20);
    }

    @Sentence(in = IN, says = "they have no penalty and cannot be waived.")
    static void countedBreachesHaveNoPenalty() {
        SupplyContract x = twenty();
        Checks.due("a forecast", x.forecast(1, 9999), 0);
        Checks.due("an order", x.order(9999), 0);
        Checks.due("balance", x.balance(), 40);
        Checks.throwsIndex("not the 21st", () -> x.waive(20));
        Checks.throwsIndex("not the 22nd", () -> x.waive(21));
        Checks.due("the best set has none of them", x.bestWaiving(), 8);
        Checks.due("the 20th can be waived", x.waive(19), 2);
    }
}

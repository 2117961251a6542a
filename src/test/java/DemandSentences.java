/** The sentences of "Demand". */
final class DemandSentences {
    private static final String IN = "Demand";

    private DemandSentences() {
    }

    @Sentence(in = IN, says = "The initial forecast of a period is the value of the demand expression, "
        + "limited to the range 0 to 9999.")
    static void theForecastIsLimited() {
        Setups.forecasts("0-1", 0, 0);
        Setups.forecasts("0", 0, 0);
        Setups.forecasts("1", 1, 1);
        Setups.forecasts("9998+period", 9998, 9999, 9999, 9999);
        Setups.forecasts("2-period", 2, 1, 0, 0, 0, 0);
        Setups.forecasts("1000*1000", 9999, 9999);
        Setups.forecasts("0-1000*1000", 0, 0);
        // 65536 would be 0, and -55537 would be 9999, if they were kept in 16 bits.
        Setups.forecasts("256*256", 9999, 9999);
        Setups.forecasts("0-9999*5-5542", 0, 0);
    }

    @Sentence(in = IN, says = "In the expression, period is the number of the period,")
    static void periodIsItsNumber() {
        SupplyContract x = Checks.contract("contract 40 50 1 1;demand period;");
        for (int p = 0; p < 40; p++) {
            Checks.due("period " + p, x.forecastOf(p), p);
        }
    }

    @Sentence(in = IN, says = "season is the remainder of the period when divided by 4,")
    static void seasonIsTheRemainder() {
        SupplyContract x = Checks.contract("contract 40 50 1 1;demand season;");
        int[] seasons = {0, 1, 2, 3};
        for (int p = 0; p < 40; p++) {
            Checks.due("season in " + p, x.forecastOf(p), seasons[p % 4]);
        }
    }

    @Sentence(in = IN, says = "and reserved is the initial reserved capacity.")
    static void reservedIsTheCapacity() {
        for (int reserved : new int[] {0, 1, 9999}) {
            SupplyContract x = Checks.contract("contract 3 " + reserved + " 1 1;demand reserved;");
            for (int p = 0; p < 3; p++) {
                Checks.due("reserved in " + p, x.forecastOf(p), reserved);
            }
        }
        SupplyContract y = Checks.contract("contract 3 50 1 1;demand reserved+1;");
        y.reserve(1, 80);
        Checks.due("the capacity at first", y.forecastOf(1), 51);
    }

    @Sentence(in = IN, says = "Division truncates toward zero;")
    static void divisionTruncates() {
        Setups.forecasts("7/2", 3);
        Setups.forecasts("10+(0-7)/2", 7);
        Setups.forecasts("10+7/(0-2)", 7);
        Setups.forecasts("(0-7)/(0-2)", 3);
        Setups.forecasts("10+(0-1)/2", 10);
        Setups.forecasts("10+(0-8)/2", 6);
        Setups.forecasts("10+1/9999", 10);
    }

    @Sentence(in = IN, says = "division by 0 gives 0.")
    static void divisionBy0() {
        Setups.forecasts("5/0", 0);
        Setups.forecasts("3+5/0", 3);
        Setups.forecasts("3+0/0", 3);
        Setups.forecasts("3+(0-5)/0", 3);
        Setups.forecasts("3+5/0*7", 3);
        Setups.forecasts("60/period", 0, 60, 30, 20, 15, 12);
        Setups.forecasts("5+60/(period-1)", 0, 5, 65, 35, 25, 20);
    }

    @Sentence(in = IN, says = "The result of each operation is limited to the range -1000000 to 1000000.")
    static void sumsAreLimited() {
        Setups.forecasts("1000*1000+0-999*1000", 1000);
        Setups.forecasts("1000*1000-1-999*1000", 999);
        Setups.forecasts("1000*1000+1-999*1000", 1000);
        Setups.forecasts("1000*1000-(0-1)-999*1000", 1000);
        Setups.forecasts("0-1000*1000+1+1000*1000+5", 6);
        Setups.forecasts("0-1000*1000-1+1000*1000+5", 5);
        Setups.forecasts("0-1000*1000+(0-1)+1000*1000+5", 5);
        Setups.forecasts("1000*1000+1000*1000-1000*1000-999*1000", 0);
    }

    @Sentence(in = IN, says = "The result of each operation is limited to the range -1000000 to 1000000.")
    static void productsAreLimited() {
        Setups.forecasts("9999*100-999*1000", 900);
        Setups.forecasts("9999*101-999*1000", 1000);
        Setups.forecasts("9999*9999/1000", 1000);
        Setups.forecasts("9999*9999/1000/1000", 1);
        Setups.forecasts("(0-9999)*9999+1000*1000+5", 5);
        Setups.forecasts("9999*(0-9999)+1000*1000+5", 5);
        Setups.forecasts("(0-9999)*100+1000*1000+5", 105);
        // Products of two limited values do not fit into an int.
        Setups.forecasts("(1000*1000)*(1000*1000)/1000", 1000);
        Setups.forecasts("(0-1000*1000)*(1000*1000)/1000+1005", 5);
        Setups.forecasts("(0-1000*1000)*(0-1000*1000)/1000", 1000);
    }

    @Sentence(in = IN, says = "The result of each operation is limited to the range -1000000 to 1000000.")
    static void quotientsStayInside() {
        Setups.forecasts("1000*1000/1-999*1000", 1000);
        Setups.forecasts("1000*1000/(0-1)+1000*1000+5", 5);
        Setups.forecasts("(0-1000*1000)/(0-1)-999*1000", 1000);
    }

    @Sentence(in = IN, says = "Without a demand statement the initial forecast is the initial reserved capacity.")
    static void withoutADemandStatement() {
        for (int reserved : new int[] {0, 50, 9999}) {
            SupplyContract x = Checks.contract("contract 40 " + reserved + " 1 1;window 1;");
            Checks.due("the first period", x.forecastOf(0), reserved);
            Checks.due("the last period", x.forecastOf(39), reserved);
        }
        SupplyContract y = Checks.contract("contract 3 50 1 1;");
        y.reserve(1, 80);
        Checks.due("the capacity at first", y.forecastOf(1), 50);
        Checks.load(y, "contract 3 60 1 1;demand 7;");
        Checks.load(y, "contract 3 60 1 1;");
        Checks.due("the statement of an earlier text does not count", y.forecastOf(2), 60);
    }
}

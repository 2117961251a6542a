/** Promises 1 to 4: the new object, the input buffer, the setup text and its errors. */
public final class SetupTest {
    private static final String HEAD = "contract 4 5 6 7;";

    public static void main(String[] args) {
        newObject();
        appending();
        loading();
        lengths();
        replacing();
        grammar();
        earlyEnds();
        headErrors();
        statementErrors();
        ladderErrors();
        repeatedStatements();
        demandErrors();
        demandValues();
        errorChangesNothing();
        Checks.end("SetupTest");
    }

    private static void newObject() {
        SupplyContract x = new SupplyContract();
        Checks.due("new: periods", x.periodCount(), 0);
        Checks.due("new: clock", x.clock(), 0);
        Checks.due("new: balance", x.balance(), 0);
        Checks.due("new: breaches", x.breachCount(), 0);
        Checks.due("new: all breaches", x.allBreaches(), 0);
        Checks.due("new: waivers", x.waiversLeft(), 0);
        Checks.due("new: error offset", x.errorOffset(), -1);
        Checks.due("new: projected", x.projected(), 0);
        Checks.due("new: undo", x.undo(), -1);
        Checks.due("new: checksum", x.checksum(), 0);
        Checks.due("new: best waiving", x.bestWaiving(), 0);
        Checks.due("new: best waiver", x.bestWaiver(0), -1);
        Checks.due("new: band", x.bandFor(0), -1);
        Checks.throwsArgument("new: the buffer is empty", () -> x.load(1));
    }

    private static void appending() {
        SupplyContract x = new SupplyContract();
        for (int k = 1; k <= 40; k++) {
            Checks.due("append " + k, x.append(0, 0, 0, 0, 0), 20 * k);
        }
        Checks.due("append beyond 800 bytes", x.append(1, 2, 3, 4, 5), -1);
        Checks.due("append beyond 800 bytes again", x.append(1, 2, 3, 4, 5), -1);
        Checks.due("the buffer is unchanged", x.load(800), SupplyContract.SYNTAX_ERROR);
        Checks.due("append after load", x.append(0, 0, 0, 0, 0), 20);

        SupplyContract y = new SupplyContract();
        y.append(0x636f6e74, 0x72616374, 0x20332034, 0x20352036, 0x3b202020);
        Checks.due("the most significant byte first", y.load(17), 3);
        SupplyContract z = new SupplyContract();
        Checks.append(z, "contract 2 1 1 1;\u00ff\u0080 ");
        Checks.due("bytes above 127", z.load(19), SupplyContract.SYNTAX_ERROR);
        Checks.due("bytes above 127: offset", z.errorOffset(), 17);
    }

    private static void loading() {
        SupplyContract x = Checks.contract("contract 5 70 3 2;spot 10 20;window 2;waivers 3 1;");
        Checks.due("periods", x.periodCount(), 5);
        Checks.due("clock", x.clock(), 0);
        Checks.due("error offset", x.errorOffset(), -1);
        Checks.due("waivers", x.waiversLeft(), 3);
        for (int p = 0; p < 5; p++) {
            Checks.due("reserved", x.reservedIn(p), 70);
            Checks.due("forecast", x.forecastOf(p), 70);
            Checks.due("order", x.orderOf(p), -1);
            Checks.due("open", x.openUnits(p), 0);
            Checks.due("missed", x.missedUnits(p), 0);
            Checks.due("invoice", x.invoice(p), 0);
        }
        Checks.due("2 periods", Checks.load(x, "contract 2 0 0 0;"), 2);
        Checks.due("40 periods", Checks.load(x, "contract 40 9999 999 99;"), 40);
        Checks.due("reserved in the last period", x.reservedIn(39), 9999);
    }

    private static void lengths() {
        SupplyContract x = new SupplyContract();
        Checks.append(x, HEAD);
        Checks.throwsArgument("negative length", () -> x.load(-1));
        Checks.throwsArgument("least length", () -> x.load(Integer.MIN_VALUE));
        Checks.throwsArgument("too great a length", () -> x.load(21));
        Checks.throwsArgument("greatest length", () -> x.load(Integer.MAX_VALUE));
        Checks.due("no error offset yet", x.errorOffset(), -1);
        Checks.due("the buffer is still there", x.load(17), 4);
        Checks.throwsArgument("the buffer is empty after load", () -> x.load(1));

        Checks.append(x, "nonsense");
        Checks.due("error", x.load(8), SupplyContract.SYNTAX_ERROR);
        Checks.throwsArgument("the buffer is empty after an error", () -> x.load(1));
        Checks.due("the exception keeps the offset", x.errorOffset(), 0);
        Checks.append(x, HEAD + " spot 1 ");
        Checks.due("error", x.load(25), SupplyContract.SYNTAX_ERROR);
        Checks.due("offset", x.errorOffset(), 25);
        Checks.append(x, HEAD);
        Checks.due("an empty text", x.load(0), SupplyContract.SYNTAX_ERROR);
        Checks.due("an empty text: offset", x.errorOffset(), 0);
        Checks.throwsArgument("the buffer is empty after an empty text", () -> x.load(1));
        Checks.append(x, HEAD);
        Checks.due("success clears the offset", x.load(20), 4);
        Checks.due("success clears the offset: offset", x.errorOffset(), -1);
    }

    private static void replacing() {
        SupplyContract x = Checks.contract("contract 3 10 1 1;spot 1 2;band 0 0 0;ladder 0 1;window 1;minimum 50;"
                + "miss 3;waivers 2 1;demand 20;");
        x.order(12);
        x.waive(0);
        x.close();
        x.forecast(2, 5);
        Checks.due("breaches before", x.allBreaches(), 2);
        Checks.due("load again", Checks.load(x, "contract 3 10 1 1;"), 3);
        Checks.due("clock", x.clock(), 0);
        Checks.due("breaches", x.breachCount(), 0);
        Checks.due("all breaches", x.allBreaches(), 0);
        Checks.due("balance", x.balance(), 0);
        Checks.due("order", x.orderOf(0), -1);
        Checks.due("forecast", x.forecastOf(2), 10);
        Checks.due("invoice", x.invoice(0), 0);
        Checks.due("band", x.bandFor(3), -1);
        Checks.due("ladder", x.penaltyFor(5, 5), 0);
        Checks.due("waivers", x.waiversLeft(), 0);
        x.order(50);
        Checks.due("no window, spot, minimum and miss price", x.close(), 20);
        Checks.due("missed", x.missedUnits(0), 40);
        x.order(0);
        Checks.due("no minimum", x.close(), 10);
        Checks.due("the statements of an earlier text do not count", Checks.load(x, "contract 4 1 1 1;spot 1 2;"), 4);
        Checks.due("once more", Checks.load(x, "contract 4 1 1 1;spot 1 2;"), 4);
    }

    private static void grammar() {
        accepted("contract4 5 6 7;");
        accepted("  contract  4  5  6  7  ;  ");
        accepted("contract 00004 5 6 7;");
        accepted(HEAD + "spot0 0;band39 100 100;ladder 0 0;window6;minimum100;miss999;waivers4 40;demand 1;");
        accepted(HEAD + "spot 9999 999;ladder 0 999 1 0 2 0 3 0 4 0 999 0;");
        accepted(HEAD + "demand((((1))))+((((2))));");
        accepted(HEAD + "demand period*season/reserved-9999;");
        accepted(HEAD + "band 0 0 0;band 1 0 0;band 2 0 0;");
        accepted(HEAD + "spot 0 0;ladder 0 0;window 0;minimum 0;miss 0;waivers 0 0;demand 0;");
        accepted(HEAD + "demand 1+2 ; spot 1 2 ;window 0;");
        StringBuilder longest = new StringBuilder(HEAD).append("demand 1");
        while (longest.length() < 797) {
            longest.append("+1");
        }
        accepted(longest.append(" ;").toString());
    }

    /** The text ends with the buffer, or before bytes that would continue it. */
    private static void earlyEnds() {
        String[] ends = {"spot", "spot 1", "spot 1 1", "ladder 1", "ladder 1 1", "demand", "demand 1", "demand 1+",
            "demand period", "demand (", "demand (1", "demand (1)", "x", "band 1 1", "spot 1 1; window"};
        for (String end : ends) {
            StringBuilder text = new StringBuilder(HEAD);
            while (text.length() + end.length() < 800) {
                text.append(' ');
            }
            syntax(text.append(end).toString(), end.equals("x") ? 799 : 800);
            for (String more : new String[] {"1", " 1", "z", ")", ";", "+1;"}) {
                SupplyContract x = new SupplyContract();
                Checks.append(x, HEAD + end + more);
                int length = HEAD.length() + end.length();
                Checks.due(end + " before " + more, x.load(length), SupplyContract.SYNTAX_ERROR);
                Checks.due(end + " before " + more + ": offset", x.errorOffset(), end.equals("x") ? 17 : length);
            }
        }
    }

    private static void accepted(String text) {
        SupplyContract x = new SupplyContract();
        Checks.due("load of " + text, Checks.load(x, text), 4);
        Checks.due("error offset of " + text, x.errorOffset(), -1);
    }

    private static void refused(String text, int code, int offset) {
        SupplyContract x = new SupplyContract();
        Checks.due("load of " + text, Checks.load(x, text), code);
        Checks.due("error offset of " + text, x.errorOffset(), offset);
        Checks.due("periods after " + text, x.periodCount(), 0);
    }

    private static void syntax(String text, int offset) {
        refused(text, SupplyContract.SYNTAX_ERROR, offset);
    }

    private static void range(String text, int offset) {
        refused(text, SupplyContract.OUT_OF_RANGE, offset);
    }

    private static void headErrors() {
        syntax("   ", 3);
        syntax("contrac 4 5 6 7;", 0);
        syntax(" contracts 4 5 6 7;", 1);
        syntax("Contract 4 5 6 7;", 0);
        syntax("contract", 8);
        syntax("contract;", 8);
        syntax("contract 4 5 6;", 14);
        syntax("contract 4 5 6 7 8;", 17);
        syntax("contract 4 5 6 7", 16);
        syntax("contract 4 5 6 7  ", 18);
        syntax("contract 4 5 6 7,", 16);
        syntax("contract\t4 5 6 7;", 8);
        syntax("contract -4 5 6 7;", 9);
        syntax("4 contract", 0);
        syntax(";" + HEAD, 0);
        range("contract 1 5 6 7;", 9);
        range("contract 41 5 6 7;", 9);
        range("contract 4 10000 6 7;", 11);
        range("contract 4 5 1000 7;", 13);
        range("contract 4 5 6 100;", 15);
        range("contract 4 5 6 100", 15);
        range("contract 0 nonsense", 9);
        range("contract 4 5 6 99999999999999999999999999999999999999999999;", 15);
        range("contract 4294967300 5 6 7;", 9);
    }

    private static void statementErrors() {
        syntax(HEAD + ";", 17);
        syntax(HEAD + "contract 4 5 6 7;", 17);
        syntax(HEAD + "bands 0 0 0;", 17);
        syntax(HEAD + "Band 0 0 0;", 17);
        syntax(HEAD + "ban", 17);
        syntax(HEAD + "xpot 1 1;", 17);
        syntax(HEAD + "spox 1 1;", 17);
        syntax(HEAD + "spotz 1 1;", 17);
        syntax(HEAD + "spot{1 1;", 21);
        syntax(HEAD + "spot`1 1;", 21);
        syntax(HEAD + "spot 1/1;", 23);
        syntax(HEAD + "spot 1:1;", 23);
        syntax(HEAD + "5", 17);
        syntax(HEAD + "spot 5;", 23);
        syntax(HEAD + "spot 5 5 5;", 26);
        syntax(HEAD + "spot 5 5", 25);
        syntax(HEAD + "spot 5 5  ", 27);
        syntax(HEAD + "spot 5 5;;", 26);
        syntax(HEAD + "spot 5 5;x", 26);
        syntax(HEAD + "band 0 0;", 25);
        syntax(HEAD + "window;", 23);
        syntax(HEAD + "minimum a;", 25);
        syntax(HEAD + "waivers 4;", 26);
        range(HEAD + "spot 10000 5;", 22);
        range(HEAD + "spot 5 1000;", 24);
        range(HEAD + "band 40 0 0;", 22);
        range(HEAD + "band 0 101 0;", 24);
        range(HEAD + "band 0 0 101;", 26);
        range(HEAD + "band 0 0 0;band 1 0 0;band 0 0 0;", 44);
        range(HEAD + "band 0 0 0;band 0;", 33);
        range(HEAD + "window 7;", 24);
        range(HEAD + "minimum 101;", 25);
        range(HEAD + "miss 1000;", 22);
        range(HEAD + "waivers 5 0;", 25);
        range(HEAD + "waivers 4 41;", 27);
        range(HEAD + "miss 1000 1000", 22);
    }

    private static void ladderErrors() {
        syntax(HEAD + "ladder;", 23);
        syntax(HEAD + "ladder 5;", 25);
        syntax(HEAD + "ladder 5 5 6;", 29);
        range(HEAD + "ladder 1000 5;", 24);
        range(HEAD + "ladder 5 1000;", 26);
        range(HEAD + "ladder 5 5 5 5;", 28);
        range(HEAD + "ladder 5 5 4;", 28);
        String six = HEAD + "ladder 1 1 2 1 3 1 4 1 5 1 6 1";
        refused(six + " 7 1;", SupplyContract.TOO_MANY, 48);
        refused(six + " 7;", SupplyContract.TOO_MANY, 48);
        refused(six + " 999 1000;", SupplyContract.TOO_MANY, 48);
        range(six + " 6 1;", 48);
        range(six + " 1000 1;", 48);
        syntax(six + " x", 48);
    }

    private static void repeatedStatements() {
        String[] once = {"spot 1 1;", "ladder 1 1;", "window 1;", "minimum 1;", "miss 1;", "waivers 1 1;", "demand 1;"};
        for (String statement : once) {
            accepted(HEAD + statement);
            int offset = HEAD.length() + statement.length();
            syntax(HEAD + statement + statement, offset);
            syntax(HEAD + statement + statement.substring(0, statement.indexOf(' ')), offset);
            syntax(HEAD + statement + "band 0 0 0; " + statement, offset + 12);
        }
    }

    private static void demandErrors() {
        syntax(HEAD + "demand;", 23);
        syntax(HEAD + "demand -1;", 24);
        syntax(HEAD + "demand 1+;", 26);
        syntax(HEAD + "demand 1 2;", 26);
        syntax(HEAD + "demand (1;", 26);
        syntax(HEAD + "demand 1);", 25);
        syntax(HEAD + "demand ();", 25);
        syntax(HEAD + "demand periods;", 24);
        syntax(HEAD + "demand period2;", 30);
        syntax(HEAD + "demand 2period;", 25);
        syntax(HEAD + "demand spot;", 24);
        syntax(HEAD + "demand 1(", 25);
        syntax(HEAD + "demand ((((1(", 29);
        syntax(HEAD + "demand 1*", 26);
        syntax(HEAD + "demand 1%2;", 25);
        range(HEAD + "demand 10000;", 24);
        range(HEAD + "demand 1+(2*10000", 29);
        refused(HEAD + "demand (((((1)))));", SupplyContract.TOO_DEEP, 28);
        refused(HEAD + "demand ((((1+(", SupplyContract.TOO_DEEP, 30);
        refused(HEAD + "demand (1)+((2)*(((3))));demand", SupplyContract.SYNTAX_ERROR, 42);
        refused(HEAD + "demand ( ( ( ( (", SupplyContract.TOO_DEEP, 32);
    }

    private static void demandValues() {
        forecasts("demand 7;", 7, 7, 7, 7, 7, 7);
        forecasts("demand period;", 0, 1, 2, 3, 4, 5);
        forecasts("demand season;", 0, 1, 2, 3, 0, 1);
        forecasts("demand reserved;", 50, 50, 50, 50, 50, 50);
        forecasts("demand 2+3*period;", 2, 5, 8, 11, 14, 17);
        forecasts("demand (2+3)*period;", 0, 5, 10, 15, 20, 25);
        forecasts("demand 10-period-1;", 9, 8, 7, 6, 5, 4);
        forecasts("demand 60/2/3;", 10, 10, 10, 10, 10, 10);
        forecasts("demand 100/period;", 0, 100, 50, 33, 25, 20);
        forecasts("demand 2-period;", 2, 1, 0, 0, 0, 0);
        forecasts("demand 5+(0-period)/2;", 5, 5, 4, 4, 3, 3);
        forecasts("demand 9999+period;", 9999, 9999, 9999, 9999, 9999, 9999);
        forecasts("demand 9999*9999/1000;", 1000, 1000, 1000, 1000, 1000, 1000);
        forecasts("demand 9999*9999*9999/1000;", 1000, 1000, 1000, 1000, 1000, 1000);
        forecasts("demand (9999*9999+9999)/1000;", 1000, 1000, 1000, 1000, 1000, 1000);
        forecasts("demand (0-9999*9999-9999+9999)/1000+995;", 5, 5, 5, 5, 5, 5);
        forecasts("demand (0-9999)*9999/1000+1005;", 5, 5, 5, 5, 5, 5);
        forecasts("demand 10-4*2+9/(1+1);", 6, 6, 6, 6, 6, 6);
        forecasts("demand 7/(period-period)+1;", 1, 1, 1, 1, 1, 1);
        forecasts("", 50, 50, 50, 50, 50, 50);
        SupplyContract x = Checks.contract("contract 40 50 1 1;demand period+1;");
        Checks.due("the last of 40 periods", x.forecastOf(39), 40);
    }

    private static void forecasts(String statement, int... want) {
        SupplyContract x = Checks.contract("contract 6 50 1 1;" + statement);
        for (int p = 0; p < want.length; p++) {
            Checks.due(statement + " in period " + p, x.forecastOf(p), want[p]);
        }
    }

    private static void errorChangesNothing() {
        SupplyContract x = Checks.contract("contract 4 10 2 1;band 0 0 0;ladder 0 3;waivers 2 0;");
        x.order(14);
        long before = x.checksum();
        String[] texts = {"", "contract", HEAD + "band 0 50 50;ladder 0 9;waivers 1 1;demand 3;x", HEAD + "window 9;"};
        for (String text : texts) {
            Checks.holds("error in " + text, Checks.load(x, text) < 0);
            Checks.due("checksum after " + text, x.checksum(), before);
            Checks.due("band after " + text, x.allowed(0, 100, true), 100);
            Checks.due("penalty after " + text, x.penaltyFor(2, 2), 6);
            Checks.due("waivers after " + text, x.waiversLeft(), 2);
        }
        Checks.due("an error is no change", x.undo(), 1);
        Checks.due("the order is undone", x.orderOf(0), -1);
    }
}

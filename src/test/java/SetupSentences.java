/** The sentences of "Setup text" without those of its errors. */
final class SetupSentences {
    private static final String IN = "Setup text";
    private static final String HEAD = Setups.HEAD;

    private SetupSentences() {
    }

    @Sentence(in = IN, says = "The setup text is read from an input buffer of at most 800 bytes.")
    static void aTextOf800Bytes() {
        String open = "contract 4 5 6 7";
        String full = open + Setups.spaces(799 - open.length()) + ";";
        Checks.due("the text has 800 bytes", full.length(), 800);
        Setups.accepted(full);
        SupplyContract x = new SupplyContract();
        Checks.append(x, full);
        Checks.due("its last byte is needed", x.load(799), SupplyContract.SYNTAX_ERROR);
        Checks.due("its last byte is needed: offset", x.errorOffset(), 799);
        Setups.syntax(HEAD + Setups.spaces(799 - HEAD.length()) + "x", 799);
        StringBuilder deep = new StringBuilder(HEAD).append("demand 1");
        while (deep.length() < 797) {
            deep.append("+1");
        }
        Setups.accepted(deep.append(" ;").toString());
    }

    @Sentence(in = IN, says = "Its grammar is: setup = \"contract\" number number number number \";\" "
        + "{ statement \";\" }")
    static void theHeadOfTheGrammar() {
        Setups.accepted("contract 4 5 6 7;");
        Setups.accepted("contract 4 5 6 7;window 1;");
        Setups.accepted("contract 4 5 6 7;window 1;miss 2;spot 3 4;");
        Setups.syntax("4 5 6 7;", 0);
        Setups.syntax("spot 4 5;", 0);
        Setups.syntax("contract;", 8);
        Setups.syntax("contract 4;", 10);
        Setups.syntax("contract 4 5;", 12);
        Setups.syntax("contract 4 5 6;", 14);
        Setups.syntax("contract 4 5 6 7 8;", 17);
        Setups.syntax("contract 4 5 6 7", 16);
        Setups.syntax("contract 4 5 6 7 window 1;", 17);
        Setups.syntax("contract 4 5 6 7;;", 17);
        Setups.syntax("contract 4 5 6 7;window 1;;", 26);
        Setups.syntax("contract 4 5 6 7;window 1", 25);
        Setups.syntax("contract 4 5 6 7;window 1 miss 2;", 26);
        Setups.syntax("contract 4 5 6 7;contract 4 5 6 7;", 17);
    }

    @Sentence(in = IN, says = "statement = \"spot\" number number | \"band\" number number number | "
        + "\"ladder\" number number { number number } | \"window\" number | \"minimum\" number | \"miss\" number | "
        + "\"waivers\" number number | \"demand\" sum")
    static void theStatements() {
        String[] words = {"spot", "band", "window", "minimum", "miss", "waivers"};
        int[] numbers = {2, 3, 1, 1, 1, 2};
        for (int k = 0; k < words.length; k++) {
            for (int count = 0; count <= 4; count++) {
                String statement = words[k] + " 1".repeat(count);
                if (count == numbers[k]) {
                    Setups.accepted(HEAD + statement + ";");
                } else {
                    int good = words[k].length() + 2 * Math.min(count, numbers[k]) + (count > numbers[k] ? 1 : 0);
                    Setups.syntax(HEAD + statement + ";", HEAD.length() + good);
                }
            }
        }
        Setups.accepted(HEAD + "demand 1;");
        Setups.syntax(HEAD + "demand;", 23);
        Setups.syntax(HEAD + "demand 1 1;", 26);
        for (String other : new String[] {"contract", "period", "season", "reserved", "spots", "x"}) {
            Setups.syntax(HEAD + other + " 1 1;", HEAD.length());
        }
    }

    @Sentence(in = IN, says = "\"ladder\" number number { number number }")
    static void theLadderHasPairs() {
        StringBuilder ladder = new StringBuilder(HEAD).append("ladder");
        Setups.syntax(ladder + ";", ladder.length());
        for (int step = 1; step <= 6; step++) {
            ladder.append(' ').append(step);
            Setups.syntax(ladder + ";", ladder.length());
            ladder.append(" 9");
            Setups.accepted(ladder + ";");
            Setups.syntax(ladder + " x;", ladder.length() + 1);
        }
    }

    @Sentence(in = IN, says = "sum = term { ( \"+\" | \"-\" ) term }")
    static void sums() {
        Setups.forecasts("7", 7);
        Setups.forecasts("7+2", 9);
        Setups.forecasts("7-2", 5);
        Setups.forecasts("9-2-3", 4);
        Setups.forecasts("9-2+3", 10);
        Setups.forecasts("9+2*3", 15);
        Setups.forecasts("9-6/3", 7);
        Setups.syntax(HEAD + "demand +7;", 24);
        Setups.syntax(HEAD + "demand -7;", 24);
        Setups.syntax(HEAD + "demand 7+;", 26);
        Setups.syntax(HEAD + "demand 7-;", 26);
        Setups.syntax(HEAD + "demand 7+-2;", 26);
        Setups.syntax(HEAD + "demand 7--2;", 26);
    }

    @Sentence(in = IN, says = "term = factor { ( \"*\" | \"/\" ) factor }")
    static void terms() {
        Setups.forecasts("7*2", 14);
        Setups.forecasts("7/2", 3);
        Setups.forecasts("60/2/3", 10);
        Setups.forecasts("7/2*2", 6);
        Setups.forecasts("7*2/2", 7);
        Setups.forecasts("7*2+1", 15);
        Setups.syntax(HEAD + "demand *7;", 24);
        Setups.syntax(HEAD + "demand /7;", 24);
        Setups.syntax(HEAD + "demand 7*;", 26);
        Setups.syntax(HEAD + "demand 7/;", 26);
        Setups.syntax(HEAD + "demand 7*-2;", 26);
        Setups.syntax(HEAD + "demand 7**2;", 26);
        Setups.syntax(HEAD + "demand 7%2;", 25);
    }

    @Sentence(in = IN, says = "factor = number | \"period\" | \"season\" | \"reserved\" | \"(\" sum \")\"")
    static void factors() {
        Setups.forecasts("8", 8, 8, 8, 8, 8, 8);
        Setups.forecasts("period", 0, 1, 2, 3, 4, 5);
        Setups.forecasts("season", 0, 1, 2, 3, 0, 1);
        Setups.forecasts("reserved", 50, 50, 50, 50, 50, 50);
        Setups.forecasts("(8)", 8, 8, 8, 8, 8, 8);
        Setups.forecasts("(9-2)*(1+1)", 14, 14, 14, 14, 14, 14);
        Setups.forecasts("9-(2-3)", 10, 10, 10, 10, 10, 10);
        Setups.forecasts("60/(2*3)", 10, 10, 10, 10, 10, 10);
        Setups.syntax(HEAD + "demand ();", 25);
        Setups.syntax(HEAD + "demand (8;", 26);
        Setups.syntax(HEAD + "demand 8);", 25);
        Setups.syntax(HEAD + "demand (8));", 27);
        Setups.syntax(HEAD + "demand 8(8);", 25);
        Setups.syntax(HEAD + "demand (8 8);", 27);
        Setups.syntax(HEAD + "demand )8(;", 24);
        Setups.syntax(HEAD + "demand demand;", 24);
        Setups.syntax(HEAD + "demand clock;", 24);
        Setups.syntax(HEAD + "demand [8];", 24);
    }

    @Sentence(in = IN, says = "A number is a run of decimal digits;")
    static void numbersAreRunsOfDigits() {
        Setups.forecasts("1234", 1234);
        Setups.forecasts("5678", 5678);
        Setups.forecasts("9090", 9090);
        Setups.forecasts("0", 0);
        Setups.forecasts("0000000000000000000000000000000000000007", 7);
        Setups.syntax(HEAD + "spot 1 /;", 24);
        Setups.syntax(HEAD + "spot 1 :;", 24);
        Setups.syntax(HEAD + "spot 1 -1;", 24);
        Setups.syntax(HEAD + "spot 1 +1;", 24);
        Setups.syntax(HEAD + "spot 1 1.0;", 25);
        Setups.syntax(HEAD + "spot 1 0x1;", 25);
        Setups.syntax(HEAD + "spot 1 a;", 24);
        Setups.syntax(HEAD + "spot 1 \u00b2;", 24);
    }

    @Sentence(in = IN, says = "a word is a run of the letters a to z.")
    static void wordsAreRunsOfSmallLetters() {
        Setups.syntax("Contract 4 5 6 7;", 0);
        Setups.syntax("CONTRACT 4 5 6 7;", 0);
        Setups.syntax("contracT 4 5 6 7;", 0);
        Setups.syntax(HEAD + "Spot 1 1;", 17);
        Setups.syntax(HEAD + "spot` 1 1;", 21);
        Setups.syntax(HEAD + "spot{ 1 1;", 21);
        Setups.syntax(HEAD + "`spot 1 1;", 17);
        Setups.syntax(HEAD + "{spot 1 1;", 17);
        Setups.syntax(HEAD + "spot_ 1 1;", 21);
        Setups.syntax(HEAD + "demand perioD;", 24);
        Setups.syntax(HEAD + "s pot 1 1;", 17);
        Setups.syntax(HEAD + "az 1 1;", 17);
    }

    @Sentence(in = IN, says = "a word is a run of the letters a to z.")
    static void eachLetterOfAWordCounts() {
        wrongLetters("", "contract", " 4 5 6 7;");
        String[] statements = {"spot 1 1;", "band 1 1 1;", "ladder 1 1;", "window 1;", "minimum 1;", "miss 1;",
            "waivers 1 1;", "demand 1;"};
        for (String statement : statements) {
            int end = statement.indexOf(' ');
            wrongLetters(HEAD, statement.substring(0, end), statement.substring(end));
        }
        for (String factor : new String[] {"period", "season", "reserved"}) {
            wrongLetters(HEAD + "demand 1+", factor, ";");
        }
    }

    /** The word alone is accepted: not with another letter in one place, nor with one letter less or more. */
    private static void wrongLetters(String before, String word, String after) {
        Setups.accepted(before + word + after);
        for (int k = 0; k < word.length(); k++) {
            String start = before + word.substring(0, k);
            String rest = word.substring(k + 1) + after;
            for (char letter : new char[] {'a', 'q', 'z'}) {
                if (letter != word.charAt(k)) {
                    Setups.syntax(start + letter + rest, before.length());
                }
            }
            Setups.syntax(start + rest, before.length());
            Setups.syntax(start + word.charAt(k) + word.charAt(k) + rest, before.length());
        }
    }

    @Sentence(in = IN, says = "Each run is as long as possible.")
    static void runsAreAsLongAsPossible() {
        Setups.accepted("contract4 5 6 7;");
        Setups.accepted(HEAD + "spot1 1;window1;demand period;");
        Setups.syntax("contractx 4 5 6 7;", 0);
        Setups.syntax("contractcontract 4 5 6 7;", 0);
        Setups.syntax("contract 4 56 7;", 15);
        Setups.outside(HEAD + "window 11;", 24);
        Setups.syntax(HEAD + "spots 1 1;", 17);
        Setups.syntax(HEAD + "spotwindow 1;", 17);
        Setups.syntax(HEAD + "demand periodseason;", 24);
        Setups.syntax(HEAD + "demand 1period;", 25);
        Setups.syntax(HEAD + "demand period1;", 30);
        Setups.outside(HEAD + "demand 12345;", 24);
        SupplyContract x = new SupplyContract();
        Checks.append(x, "contract 4 5 6 77;;");
        Checks.due("a run ends with the text", x.load(16), SupplyContract.SYNTAX_ERROR);
        Checks.due("a run ends with the text: offset", x.errorOffset(), 16);
        Checks.append(x, HEAD + "windowx 1;");
        Checks.due("a word ends with the text", x.load(23), SupplyContract.SYNTAX_ERROR);
        Checks.due("a word ends with the text: offset", x.errorOffset(), 23);
    }

    @Sentence(in = IN, says = "Spaces (byte 32) may precede any token")
    static void spacesBeforeAnyToken() {
        Setups.accepted(" contract 4 5 6 7;");
        Setups.accepted("   contract   4   5   6   7   ;   spot   1   2   ;");
        Setups.accepted(HEAD + " ladder  1  2  3  4 ; band  1  2  3 ;");
        SupplyContract x = Checks.contract("contract 2 50 1 1 ; demand ( 7 + period ) * 2 - reserved / 10 ;");
        Checks.due("spaces in an expression", x.forecastOf(1), 11);
        Checks.due("no spaces in an expression",
            Checks.contract("contract 2 50 1 1;demand(7+period)*2-reserved/10;").forecastOf(1), 11);
        Setups.syntax("con tract 4 5 6 7;", 0);
        Setups.accepted("contract 4 5 6 7;spot 1 2;");
        Setups.syntax("contract 4 5 6 7;spot 1 2 3;", 26);
    }

    @Sentence(in = IN, says = "and may follow the last one.")
    static void spacesAfterTheLastToken() {
        Setups.accepted(HEAD + " ");
        Setups.accepted(HEAD + "window 1; ");
        Setups.accepted(HEAD + Setups.spaces(800 - HEAD.length()));
        Setups.syntax("contract 4 5 6 7 ", 17);
        Setups.syntax(HEAD + "   x", 20);
    }

    @Sentence(in = IN, says = "No other byte separates tokens.")
    static void noOtherByteSeparates() {
        for (int b = 0; b < 256; b++) {
            boolean digit = b >= '0' && b <= '9';
            boolean letter = b >= 'a' && b <= 'z';
            if (b != ' ' && !digit) {
                char sign = (char) b;
                Setups.syntax("contract" + sign + "4 5 6 7;", letter ? 0 : 8);
                Setups.syntax("contract 4" + sign + "5 6 7;", 10);
                Setups.syntax(sign + HEAD, 0);
                Setups.syntax(HEAD + sign, 17);
                Setups.syntax(HEAD + sign + " window 1;", 17);
            }
        }
    }

    @Sentence(in = IN, says = "The numbers of contract are the number of periods, the reserved capacity of all "
        + "periods, the unit price and the reservation fee.")
    static void theNumbersOfContract() {
        SupplyContract x = Checks.contract("contract 5 30 7 2;demand 11;");
        Checks.due("periods", x.periodCount(), 5);
        for (int p = 0; p < 5; p++) {
            Checks.due("capacity in " + p, x.reservedIn(p), 30);
        }
        Checks.due("prices", x.close(), 7 * 11 + 2 * 30);
    }

    @Sentence(in = IN, says = "Those of spot are the limit and the price;")
    static void theNumbersOfSpot() {
        SupplyContract x = Checks.contract("contract 2 0 1 1;spot 3 7;demand 5;");
        Checks.due("3 units for 7 each", x.close(), 21);
        Checks.due("missed", x.missedUnits(0), 2);
    }

    @Sentence(in = IN, says = "those of band are the lead, the low and the high percentage;")
    static void theNumbersOfBand() {
        SupplyContract x = Checks.contract(HEAD + "band 3 10 20;");
        Checks.due("lead", x.bandFor(5), 3);
        Checks.due("low", x.allowed(3, 100, false), 90);
        Checks.due("high", x.allowed(3, 100, true), 120);
    }

    @Sentence(in = IN, says = "those of ladder are the percentage and the price of each step;")
    static void theNumbersOfLadder() {
        SupplyContract x = Checks.contract(HEAD + "ladder 30 2 40 1;");
        Checks.due("29 percent", x.penaltyFor(29, 100), 0);
        Checks.due("30 percent", x.penaltyFor(30, 100), 60);
        Checks.due("40 percent", x.penaltyFor(40, 100), 40);
    }

    @Sentence(in = IN, says = "those of waivers are the number of waivers (0 to 4) and the gap (0 to 40).")
    static void theNumbersOfWaivers() {
        Setups.range(HEAD + "waivers ", 0, 4, " 2;");
        Setups.range(HEAD + "waivers 2 ", 0, 40, ";");
        Checks.due("0", Checks.contract(HEAD + "waivers 0 40;").waiversLeft(), 0);
        Checks.due("4", Checks.contract(HEAD + "waivers 4 0;").waiversLeft(), 4);
        SupplyContract x = Checks.contract("contract 5 10 1 1;band 0 0 0;ladder 0 1;waivers 3 2;");
        x.forecast(1, 11);
        x.forecast(2, 11);
        x.forecast(3, 11);
        x.waive(0);
        Checks.throwsState("a gap of 2: one period later", () -> x.waive(1));
        Checks.due("a gap of 2: two periods later", x.waive(2), 1);
    }

    @Sentence(in = IN, says = "A number as a factor is 0 to 9999.")
    static void theNumbersOfDemand() {
        Setups.range(HEAD + "demand ", 0, 9999, ";");
        Setups.range(HEAD + "demand 1+", 0, 9999, "-2;");
        Setups.range(HEAD + "demand 1*(2-", 0, 9999, ");");
        Setups.forecasts("9999", 9999);
        Setups.forecasts("0", 0);
    }

    @Sentence(in = IN, says = "Parentheses nest at most 4 deep.")
    static void parenthesesNestAtMost4Deep() {
        Setups.forecasts("((((8))))", 8);
        Setups.forecasts("((((8))))+((((9))))", 17);
        Setups.forecasts("((((8))+(9)))*((((1)+(1))))", 34);
        Setups.forecasts("(1)+(1)+(1)+(1)+(1)+(1)", 6);
        Setups.forecasts("((((8)))-((2))+(((3))))", 9);
        Setups.refused(HEAD + "demand (((((8)))));", SupplyContract.TOO_DEEP, 28);
        Setups.refused(HEAD + "demand 1+((2)*(((3*(4)))));", SupplyContract.TOO_DEEP, 36);
    }

    @Sentence(in = IN, says = "Without the statements, the spot limit and price, the window, the minimum, "
        + "the miss price, the number of waivers and the gap are 0, and there are no bands and steps.")
    static void withoutTheStatements() {
        SupplyContract x = Checks.contract("contract 4 10 3 0;");
        statementsAreMissing("new object", x);
        Checks.load(x, "contract 4 20 3 0;spot 9 8;window 2;minimum 50;miss 7;waivers 3 2;band 0 1 1;ladder 0 1;"
            + "demand 5;");
        Checks.load(x, "contract 4 10 3 0;");
        statementsAreMissing("after a text with all statements", x);
        Setups.refused(HEAD + "spot 9 8;window 2;x", SupplyContract.SYNTAX_ERROR, 35);
        Checks.load(x, "contract 4 20 3 0;spot 9 8;window 2;minimum 50;miss 7;waivers 3 2;band 0 1 1;ladder 0 1;x");
        Checks.load(x, "contract 4 10 3 0;");
        statementsAreMissing("after a text with an error", x);
    }

    private static void statementsAreMissing(String what, SupplyContract x) {
        Checks.due(what + ": waivers", x.waiversLeft(), 0);
        Checks.due(what + ": bands", x.bandFor(39), -1);
        Checks.due(what + ": steps", x.penaltyFor(9999, 0), 0);
        x.order(25);
        Checks.due(what + ": no spot market, no miss price", x.close(), 30);
        Checks.due(what + ": no spot limit, no window", x.missedUnits(0), 15);
        x.order(0);
        Checks.due(what + ": no minimum", x.close(), 0);
    }

    @Sentence(in = IN, says = "The statements spot, ladder, window, minimum, miss, waivers and demand "
        + "may each occur once;")
    static void statementsOccurOnce() {
        String[] once = {"spot 1 1;", "ladder 1 1;", "window 1;", "minimum 1;", "miss 1;", "waivers 1 1;", "demand 1;"};
        StringBuilder all = new StringBuilder(HEAD);
        for (String statement : once) {
            Setups.accepted(HEAD + statement);
            all.append(statement);
        }
        Setups.accepted(all.toString());
        for (String statement : once) {
            Setups.syntax(all + statement, all.length());
        }
        StringBuilder backwards = new StringBuilder(HEAD);
        for (int k = once.length - 1; k >= 0; k--) {
            backwards.append(once[k]);
        }
        Setups.accepted(backwards.toString());
    }

    @Sentence(in = IN, says = "band may be repeated.")
    static void bandsMayBeRepeated() {
        StringBuilder text = new StringBuilder(HEAD);
        for (int lead = 39; lead >= 0; lead--) {
            text.append("band ").append(lead).append(' ').append(lead).append(' ').append(lead + 1).append(';');
        }
        SupplyContract x = Checks.contract(text.toString());
        for (int lead = 0; lead < 40; lead++) {
            Checks.due("band " + lead, x.bandFor(lead), lead);
            Checks.due("low " + lead, x.allowed(lead, 100, false), 100 - lead);
            Checks.due("high " + lead, x.allowed(lead, 100, true), 101 + lead);
        }
        Setups.accepted(HEAD + "band 1 0 0;spot 1 1;band 2 0 0;window 1;band 0 0 0;");
    }
}

/** The sentences of "Setup text" about its errors. */
final class ErrorSentences {
    private static final String IN = "Setup text";
    private static final String HEAD = Setups.HEAD;
    private static final String SIX = HEAD + "ladder 1 1 2 1 3 1 4 1 5 1 600 1";

    private ErrorSentences() {
    }

    private static void tooMany(String text, int offset) {
        Setups.refused(text, SupplyContract.TOO_MANY, offset);
    }

    private static void tooDeep(String text, int offset) {
        Setups.refused(text, SupplyContract.TOO_DEEP, offset);
    }

    @Sentence(in = IN, says = "The first error in the text is the one with the smallest offset.")
    static void theSmallestOffset() {
        Setups.outside("contract 1 99999 x", 9);
        Setups.outside("contract 4 99999 9999 x", 11);
        Setups.syntax("contract x 99999", 9);
        Setups.outside(HEAD + "window 7 x", 24);
        Setups.outside(HEAD + "window 7;window 1;", 24);
        Setups.syntax(HEAD + "window 1;window 7;", 26);
        Setups.outside(HEAD + "band 1 101 101;band 1", 24);
        Setups.outside(HEAD + "band 1 0 0;band 1 101 0;", 33);
        tooMany(SIX + " 700 1000;", SIX.length() + 1);
        tooMany(SIX + " 700", SIX.length() + 1);
        tooMany(SIX + " 700 x", SIX.length() + 1);
        Setups.outside(HEAD + "ladder 1 1000 1", 26);
        tooDeep(HEAD + "demand (((((10000", 28);
        tooDeep(HEAD + "demand (((((", 28);
        Setups.outside(HEAD + "demand 10000+(((((1", 24);
        Setups.syntax(HEAD + "demand )+(((((1", 24);
        tooDeep(HEAD + "demand (((((1))))); window 9;", 28);
        Setups.outside("contract 4 5 6 100", 15);
        Setups.outside(HEAD + "miss 1000", 22);
    }

    @Sentence(in = IN, says = "If several kinds of error have the same offset, the first one in this list counts:")
    static void severalKindsAtOneOffset() {
        // A number that is too great where the grammar allows none: SYNTAX_ERROR, not OUT_OF_RANGE.
        Setups.syntax("contract 4 5 6 7 99999;", 17);
        Setups.syntax(HEAD + "window 1 99999;", 26);
        Setups.syntax(HEAD + "99999;", 17);
        Setups.syntax(HEAD + "demand 1 99999;", 26);
        // A parenthesis inside 4 others where the grammar allows none: SYNTAX_ERROR, not TOO_DEEP.
        Setups.syntax(HEAD + "demand ((((1(", 29);
        Setups.syntax(HEAD + "demand ((((period (", 35);
        // A percentage of a 7th step that is outside its range: OUT_OF_RANGE, not TOO_MANY.
        Setups.outside(SIX + " 1000 1;", SIX.length() + 1);
        Setups.outside(SIX + " 600 1;", SIX.length() + 1);
        Setups.outside(SIX + " 0 1;", SIX.length() + 1);
        Setups.outside(SIX + " 99999999999999999999 1;", SIX.length() + 1);
        tooMany(SIX + " 601 1;", SIX.length() + 1);
        tooMany(SIX + " 999 1;", SIX.length() + 1);
    }

    @Sentence(in = IN, says = "- SYNTAX_ERROR: a token or byte that the grammar does not allow here, "
        + "at its first byte;")
    static void tokensThatAreNotAllowed() {
        Setups.syntax("x", 0);
        Setups.syntax("  contracts 4 5 6 7;", 2);
        Setups.syntax("contract four 5 6 7;", 9);
        Setups.syntax("contract 4 5 6 7 , ", 17);
        Setups.syntax(HEAD + "  windows 1;", 19);
        Setups.syntax(HEAD + "window  window 1;", 25);
        Setups.syntax(HEAD + "window  1x;", 26);
        Setups.syntax(HEAD + "demand  reservedx;", 25);
        Setups.syntax(HEAD + "demand 1   12345;", 28);
        Setups.syntax(HEAD + "\u0000", 17);
        Setups.syntax(HEAD + "\n", 17);
        Setups.syntax(HEAD + "\u00ff", 17);
        Setups.syntax(HEAD + "\u00a0", 17);
    }

    @Sentence(in = IN, says = "the end of the text, at its length, if the text ends too early;")
    static void theEndOfTheText() {
        Setups.syntax(" ", 1);
        Setups.syntax(Setups.spaces(800), 800);
        String whole = "contract 4 5 6 7;ladder 1 1 2 2;demand ((1+2)*period);";
        for (int length = 0; length < whole.length(); length++) {
            SupplyContract x = new SupplyContract();
            Checks.append(x, whole);
            int answer = x.load(length);
            if (length == 17 || length == 32) {
                Checks.due("a whole text of length " + length, answer, 4);
            } else {
                Checks.due("length " + length, answer, SupplyContract.SYNTAX_ERROR);
                Checks.due("offset of length " + length, x.errorOffset(), endsInAWord(whole, length));
            }
        }
        Setups.syntax(HEAD + "window", 23);
        Setups.syntax(HEAD + "window   ", 26);
        Setups.syntax(HEAD + "window 1   ", 28);
        Setups.syntax(HEAD + "window 1" + Setups.spaces(775), 800);
    }

    /** A word that is cut off is an error at its first letter, and not at the end of the text. */
    private static int endsInAWord(String text, int length) {
        String[] words = {"contract", "ladder", "demand", "period"};
        for (String word : words) {
            int at = text.indexOf(word);
            if (length > at && length < at + word.length()) {
                return at;
            }
        }
        return length;
    }

    @Sentence(in = IN, says = "a second spot, ladder, window, minimum, miss, waivers or demand, at its first letter.")
    static void aSecondStatement() {
        String[] once = {"spot 1 1", "ladder 1 1", "window 1", "minimum 1", "miss 1", "waivers 1 1", "demand 1"};
        for (String statement : once) {
            String word = statement.substring(0, statement.indexOf(' '));
            String first = HEAD + statement + ";";
            Setups.syntax(first + statement + ";", first.length());
            Setups.syntax(first + "   " + statement + ";", first.length() + 3);
            Setups.syntax(first + word, first.length());
            Setups.syntax(first + word + " 99999;", first.length());
            Setups.syntax(first + "band 0 0 0;" + statement + ";", first.length() + 11);
        }
        SupplyContract x = Checks.contract(HEAD + "spot 1 1;window 1;");
        Checks.due("once in each text", Checks.load(x, HEAD + "spot 1 1;window 1;"), 4);
        Checks.load(x, HEAD + "spot 1 1;window 1;x");
        Checks.due("once in each text, after an error", Checks.load(x, HEAD + "spot 1 1;window 1;"), 4);
    }

    @Sentence(in = IN, says = "- OUT_OF_RANGE: a number outside its range, at its first digit;")
    static void numbersOutsideTheirRange() {
        Setups.outside("contract   00041 5 6 7;", 11);
        Setups.outside("contract 4 5 6   100;", 17);
        Setups.outside(HEAD + "spot   10000 1;", 24);
        Setups.outside(HEAD + "spot 1   1000;", 26);
        Setups.outside(HEAD + "minimum000101;", 24);
        Setups.outside(HEAD + "demand ( 1 +  10000 );", 31);
        Setups.outside(HEAD + "demand 10000", 24);
        Setups.outside("contract 99999999999999999999999999999999999999999999999999 5 6 7;", 9);
    }

    @Sentence(in = IN, says = "the lead of a band if there is a band for this lead already;")
    static void aSecondBandForALead() {
        String bands = HEAD + "band 0 1 1;band 39 1 1;";
        Setups.outside(bands + "band 0 1 1;", bands.length() + 5);
        Setups.outside(bands + "band   39 1 1;", bands.length() + 7);
        Setups.outside(bands + "band 39", bands.length() + 5);
        Setups.outside(bands + "band 0 x", bands.length() + 5);
        Setups.outside(bands + "band 0 101 0;", bands.length() + 5);
        Setups.accepted(bands + "band 1 1 1;band 38 1 1;");
        SupplyContract x = Checks.contract(bands);
        Checks.due("another text may have the same lead", Checks.load(x, bands), 4);
        Checks.load(x, bands + "x");
        Checks.due("also after a text with an error", Checks.load(x, bands), 4);
    }

    @Sentence(in = IN, says = "a percentage of a ladder step that is not greater than that of the step before it.")
    static void percentagesMustGrow() {
        Setups.accepted(HEAD + "ladder 0 5 1 5;");
        Setups.accepted(HEAD + "ladder 5 9 6 8 7 7 999 0;");
        Setups.outside(HEAD + "ladder 0 5 0 5;", 28);
        Setups.outside(HEAD + "ladder 5 5 5 5;", 28);
        Setups.outside(HEAD + "ladder 5 5 4 5;", 28);
        Setups.outside(HEAD + "ladder 5 5 6 5   6 5;", 34);
        Setups.outside(HEAD + "ladder 5 5 9 5 7 5;", 32);
        Setups.outside(HEAD + "ladder 999 5 999 5;", 30);
        Setups.outside(HEAD + "ladder 999 5 1000 5;", 30);
        Setups.outside(HEAD + "ladder 1 1 2 1 3 1 4 1 5 1 5 1;", 44);
        SupplyContract x = Checks.contract(HEAD + "ladder 500 1 600 1;");
        Checks.due("the ladder of an earlier text does not count", Checks.load(x, HEAD + "ladder 5 1 6 1;"), 4);
    }

    @Sentence(in = IN, says = "- TOO_MANY: the percentage of a 7th step, at its first digit.")
    static void the7thStep() {
        Setups.accepted(SIX + ";");
        tooMany(SIX + " 700 1;", SIX.length() + 1);
        tooMany(SIX + "   700 1;", SIX.length() + 3);
        tooMany(SIX + " 700 1 800 1;", SIX.length() + 1);
        tooMany(SIX + " 000700 1;", SIX.length() + 1);
        SupplyContract x = Checks.contract(SIX + ";");
        Checks.load(x, SIX + " 700 1;");
        Checks.due("six steps after a text with an error", Checks.load(x, SIX + ";"), 4);
    }

    @Sentence(in = IN, says = "- TOO_DEEP: an opening parenthesis inside 4 others, at that parenthesis.")
    static void the5thParenthesis() {
        Setups.accepted(HEAD + "demand ((((1))));");
        tooDeep(HEAD + "demand (((((1)))));", 28);
        tooDeep(HEAD + "demand ( ( ( (   (1)))));", 34);
        tooDeep(HEAD + "demand ((((1+(2)))));", 30);
        tooDeep(HEAD + "demand ((((1*(2)))));", 30);
        tooDeep(HEAD + "demand (1)+((((1))))-((2)+(((3)/(4))*((5))-(((6)))));", 62);
        Setups.accepted(HEAD + "demand (1)+((((1))))-((2)+(((3)/(4))*((5))-((6))));");
    }
}

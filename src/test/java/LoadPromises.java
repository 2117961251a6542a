/** The sentences of the promises 1 to 4: the new object, append, load and errorOffset. */
final class LoadPromises {
    private static final String HEAD = Setups.HEAD;

    private LoadPromises() {
    }

    @Sentence(in = "Promise 1", says = "Creates an object without a contract")
    static void aNewObjectHasNoContract() {
        SupplyContract x = new SupplyContract();
        Checks.due("periods", x.periodCount(), 0);
        Checks.due("clock", x.clock(), 0);
        Checks.due("breaches", x.allBreaches(), 0);
        Checks.due("balance", x.balance(), 0);
        Checks.due("nothing to undo", x.undo(), -1);
        Checks.throwsState("no period to close", x::close);
        SupplyContract other = Checks.contract(HEAD);
        other.close();
        Checks.due("another object does not matter", new SupplyContract().periodCount(), 0);
    }

    @Sentence(in = "Promise 1", says = "and with an empty input buffer.")
    static void aNewObjectHasAnEmptyBuffer() {
        SupplyContract x = new SupplyContract();
        Checks.throwsArgument("no byte to read", () -> x.load(1));
        Checks.due("the first append", x.append(0, 0, 0, 0, 0), 20);
        SupplyContract y = new SupplyContract();
        Checks.due("an empty text", y.load(0), SupplyContract.SYNTAX_ERROR);
        Checks.due("another object has its own buffer", new SupplyContract().append(1, 2, 3, 4, 5), 20);
    }

    @Sentence(in = "Promise 2", says = "Appends 20 bytes to the input buffer: the 4 bytes of each argument, "
        + "the most significant byte first.")
    static void theMostSignificantByteFirst() {
        SupplyContract x = new SupplyContract();
        x.append(0x636f6e74, 0x72616374, 0x20332034, 0x20352036, 0x3b202020);
        Checks.due("contract 3 4 5 6;", x.load(20), 3);
        Checks.due("its second number", x.reservedIn(0), 4);
        SupplyContract y = new SupplyContract();
        y.append(0x636f6e74, 0x72616374, 0x20342035, 0x20362037, 0x3b77696e);
        y.append(0x646f7720, 0x363b6d69, 0x73732039, 0x393b2020, 0x20202020);
        Checks.due("two appends", y.load(40), 4);
        for (int at = 0; at < 20; at++) {
            StringBuilder text = new StringBuilder("contract 4 5 6 7;   ");
            text.setCharAt(at, (char) 255);
            SupplyContract z = new SupplyContract();
            Checks.append(z, text.toString());
            z.load(20);
            // A word that is cut in two is wrong from its first letter on.
            Checks.due("byte " + at, z.errorOffset(), at < 8 ? 0 : at);
        }
    }

    @Sentence(in = "Promise 2", says = "Appends 20 bytes to the input buffer")
    static void bytesOfEveryKind() {
        SupplyContract x = new SupplyContract();
        x.append(Integer.MIN_VALUE, Integer.MAX_VALUE, -1, 0, 1);
        Checks.due("a negative argument", x.load(20), SupplyContract.SYNTAX_ERROR);
        Checks.due("its first byte", x.errorOffset(), 0);
        x.append(0x20202020, 0x202020ff, -1, 0, 1);
        Checks.due("the byte 255", x.load(20), SupplyContract.SYNTAX_ERROR);
        Checks.due("its offset", x.errorOffset(), 7);
        x.append(0x20202020, 0x20202020, 0x2020a020, 0, 1);
        Checks.due("the byte 160 is no space", x.load(20), SupplyContract.SYNTAX_ERROR);
        Checks.due("the offset of byte 160", x.errorOffset(), 10);
    }

    @Sentence(in = "Promise 2", says = "Returns the new length of the buffer;")
    static void appendAnswersTheLength() {
        SupplyContract x = new SupplyContract();
        for (int k = 1; k <= 40; k++) {
            Checks.due("append " + k, x.append(k, k, k, k, k), 20 * k);
        }
        x.load(0);
        Checks.due("after load", x.append(0, 0, 0, 0, 0), 20);
    }

    @Sentence(in = "Promise 2", says = "-1 if it would exceed 800 bytes,")
    static void aFullBufferRefuses() {
        SupplyContract x = new SupplyContract();
        for (int k = 1; k < 40; k++) {
            x.append(0, 0, 0, 0, 0);
        }
        Checks.due("800 bytes", x.append(0, 0, 0, 0, 0), 800);
        Checks.due("more than 800 bytes", x.append(0, 0, 0, 0, 0), -1);
        Checks.due("again", x.append(-1, -1, -1, -1, -1), -1);
        x.load(800);
        Checks.due("room again after load", x.append(0, 0, 0, 0, 0), 20);
    }

    @Sentence(in = "Promise 2", says = "and the buffer is unchanged then.")
    static void aRefusedAppendChangesNothing() {
        String text = HEAD + Setups.spaces(800 - HEAD.length() - 9) + "window 1;";
        SupplyContract x = new SupplyContract();
        Checks.append(x, text);
        Checks.due("refused", x.append(0, 0, 0, 0, 0), -1);
        Checks.due("refused again", x.append(-1, -1, -1, -1, -1), -1);
        Checks.throwsArgument("no longer than 800", () -> x.load(801));
        Checks.due("the same text", x.load(800), 4);
    }

    @Sentence(in = "Promise 3", says = "Reads the first bytes of the input buffer as a setup text")
    static void loadReadsTheFirstBytes() {
        SupplyContract x = new SupplyContract();
        Checks.append(x, HEAD + "window 1;miss 9;xyz");
        Checks.due("17 bytes", x.load(17), 4);
        Checks.append(x, HEAD + "window 1;miss 9;xyz");
        Checks.due("26 bytes", x.load(26), 4);
        Checks.append(x, HEAD + "window 1;miss 9;xyz");
        Checks.due("25 bytes", x.load(25), SupplyContract.SYNTAX_ERROR);
        Checks.append(x, HEAD + "window 1;miss 9;xyz");
        Checks.due("34 bytes", x.load(34), SupplyContract.SYNTAX_ERROR);
        Checks.due("the error behind", x.errorOffset(), 33);
        Checks.append(x, HEAD + "window 1;miss 9;xyz");
        Checks.due("all bytes", x.load(40), SupplyContract.SYNTAX_ERROR);
    }

    @Sentence(in = "Promise 3", says = "and replaces the contract by the one that it describes.")
    static void loadReplacesTheContract() {
        SupplyContract x = Checks.contract("contract 6 90 9 9;spot 9 9;band 0 9 9;ladder 0 9;window 5;minimum 90;miss 9;"
            + "waivers 4 9;demand 99;");
        x.reserve(2, 77);
        Checks.due("load", Checks.load(x, "contract 3 10 2 1;spot 4 3;band 1 10 20;ladder 5 6;window 1;minimum 50;"
            + "miss 7;waivers 2 1;demand 12;"), 3);
        Checks.due("periods", x.periodCount(), 3);
        Checks.throwsIndex("no period 3", () -> x.reservedIn(3));
        Checks.due("capacity", x.reservedIn(2), 10);
        Checks.due("forecast", x.forecastOf(2), 12);
        Checks.due("no band for lead 0", x.bandFor(0), -1);
        Checks.due("a band for lead 1", x.allowed(1, 100, true), 120);
        Checks.due("ladder", x.penaltyFor(5, 100), 30);
        Checks.due("waivers", x.waiversLeft(), 2);
        x.order(30);
        Checks.due("fee, unit price", x.close(), 10 + 20);
        x.order(0);
        Checks.due("fee, unit price, spot price, shortfall, miss price", x.close(), 10 + 20 + 3 * 4 + 2 * 5 - 7 * 6);
    }

    @Sentence(in = "Promise 3", says = "The clock is 0 then, and there are no orders, invoices and breaches.")
    static void loadStartsAnew() {
        SupplyContract x = Checks.contract("contract 3 10 2 1;band 0 0 0;ladder 0 1;waivers 4 0;miss 1;");
        x.order(30);
        x.forecast(2, 15);
        x.waive(0);
        x.close();
        x.order(20);
        x.close();
        Checks.load(x, "contract 3 10 2 1;band 0 0 0;ladder 0 1;waivers 4 0;miss 1;");
        Checks.due("clock", x.clock(), 0);
        for (int p = 0; p < 3; p++) {
            Checks.due("order of " + p, x.orderOf(p), -1);
            Checks.due("open of " + p, x.openUnits(p), 0);
            Checks.due("missed of " + p, x.missedUnits(p), 0);
            Checks.due("invoice of " + p, x.invoice(p), 0);
        }
        Checks.due("breaches", x.breachCount(), 0);
        Checks.due("all breaches", x.allBreaches(), 0);
        Checks.due("waivers", x.waiversLeft(), 4);
        Checks.due("balance", x.balance(), 0);
    }

    @Sentence(in = "Promise 3", says = "The input buffer is empty afterwards, also if the text has an error.")
    static void loadEmptiesTheBuffer() {
        SupplyContract x = new SupplyContract();
        Checks.append(x, HEAD);
        x.load(17);
        Checks.throwsArgument("after a good text", () -> x.load(1));
        Checks.append(x, "nonsense, and more than 20 bytes of it");
        x.load(8);
        Checks.throwsArgument("after an error", () -> x.load(1));
        Checks.append(x, HEAD);
        x.load(0);
        Checks.throwsArgument("after an empty text", () -> x.load(1));
        Checks.due("20 bytes", x.append(0, 0, 0, 0, 0), 20);
        Checks.append(x, HEAD);
        x.load(20);
        Checks.throwsArgument("after an error in the first 20 of 40 bytes", () -> x.load(1));
        Checks.due("20 bytes again", Checks.append(x, HEAD), 20);
        Checks.due("nothing is left of the text before", x.load(17), 4);
    }

    @Sentence(in = "Promise 3", says = "An error leaves all other data unchanged.")
    static void anErrorChangesNothing() {
        String[] texts = {"", "x", "contract 1 1 1 1;", "contract 9 1 1 1;band 0 50 50;ladder 0 9;window 6;spot 9 9;"
            + "minimum 9;miss 9;waivers 1 1;demand 3;x", HEAD + "ladder 1 1 2 2 3 3 4 4 5 5 6 6 7 7;",
            HEAD + "demand (((((1)))));"};
        for (String text : texts) {
            SupplyContract tried = running();
            SupplyContract other = running();
            Checks.holds("an error in " + text, Checks.load(tried, text) < 0);
            Checks.dueText("state after " + text, Seen.state(tried), Seen.state(other));
            Checks.due("undo after " + text, tried.undo(), other.undo());
            Checks.dueText("state after " + text + " and undo", Seen.state(tried), Seen.state(other));
        }
    }

    private static SupplyContract running() {
        SupplyContract x = Checks.contract("contract 4 10 5 2;spot 3 9;band 0 10 10;ladder 0 2 50 4;window 2;minimum 80;"
            + "miss 4;waivers 2 1;demand 8+season;");
        x.order(25);
        x.waive(0);
        x.close();
        x.forecast(2, 30);
        return x;
    }

    @Sentence(in = "Promise 3", says = "An empty text has a SYNTAX_ERROR.")
    static void anEmptyText() {
        SupplyContract x = new SupplyContract();
        Checks.due("a new object", x.load(0), SupplyContract.SYNTAX_ERROR);
        Checks.due("its offset", x.errorOffset(), 0);
        Checks.append(x, HEAD);
        Checks.due("a full buffer", x.load(0), SupplyContract.SYNTAX_ERROR);
        Checks.due("its offset again", x.errorOffset(), 0);
    }

    @Sentence(in = "Promise 3", says = "- `length`: the number of bytes to read")
    static void theLength() {
        for (int length = 17; length <= 20; length++) {
            SupplyContract x = new SupplyContract();
            Checks.append(x, HEAD);
            Checks.due("length " + length, x.load(length), 4);
        }
        SupplyContract y = new SupplyContract();
        Checks.append(y, HEAD);
        Checks.due("length 16", y.load(16), SupplyContract.SYNTAX_ERROR);
    }

    @Sentence(in = "Promise 3", says = "Returns the number of periods;")
    static void loadAnswersTheNumberOfPeriods() {
        SupplyContract x = new SupplyContract();
        for (int n = 2; n <= 40; n++) {
            Checks.due("periods", Checks.load(x, "contract " + n + " 5 6 7;"), n);
        }
    }

    @Sentence(in = "Promise 3", says = "or the error code of the first error.")
    static void loadAnswersTheErrorCode() {
        SupplyContract x = new SupplyContract();
        Checks.due("SYNTAX_ERROR", Checks.load(x, "contract x 99999;"), -2);
        Checks.due("OUT_OF_RANGE", Checks.load(x, "contract 99 x;"), -3);
        Checks.due("TOO_MANY", Checks.load(x, HEAD + "ladder 1 1 2 2 3 3 4 4 5 5 6 6 7 x"), -4);
        Checks.due("TOO_DEEP", Checks.load(x, HEAD + "demand (((((10000"), -5);
    }

    @Sentence(in = "Promise 3", says = "Throws `IllegalArgumentException` if length is negative "
        + "or greater than the length of the buffer;")
    static void wrongLengths() {
        SupplyContract x = new SupplyContract();
        for (int filled = 0; filled <= 800; filled += 400) {
            int most = filled;
            Checks.throwsArgument("-1 of " + most, () -> x.load(-1));
            Checks.throwsArgument("the least int of " + most, () -> x.load(Integer.MIN_VALUE));
            Checks.throwsArgument("1 more than " + most, () -> x.load(most + 1));
            Checks.throwsArgument("the greatest int of " + most, () -> x.load(Integer.MAX_VALUE));
            Checks.append(x, Setups.spaces(400));
        }
        Checks.due("the whole buffer", x.load(800), SupplyContract.SYNTAX_ERROR);
    }

    @Sentence(in = "Promise 3", says = "the buffer is unchanged then")
    static void aWrongLengthKeepsTheBuffer() {
        SupplyContract x = new SupplyContract();
        Checks.append(x, HEAD);
        Checks.throwsArgument("too great", () -> x.load(21));
        Checks.throwsArgument("negative", () -> x.load(-1));
        Checks.due("the next append", Checks.append(x, "window 1;"), 40);
        Checks.throwsArgument("too great again", () -> x.load(41));
        Checks.due("the whole text", x.load(40), 4);
    }

    @Sentence(in = "Promise 4", says = "Returns the offset of the error found by the latest call of load "
        + "that did not throw;")
    static void theOffsetOfTheLatestLoad() {
        SupplyContract x = new SupplyContract();
        Checks.load(x, "x");
        Checks.due("offset 0", x.errorOffset(), 0);
        Checks.load(x, HEAD + "x");
        Checks.due("offset 17", x.errorOffset(), 17);
        Checks.throwsArgument("a load that throws", () -> x.load(1));
        Checks.due("offset 17 again", x.errorOffset(), 17);
        Checks.throwsArgument("another load that throws", () -> x.load(-1));
        Checks.due("still offset 17", x.errorOffset(), 17);
        Checks.load(x, HEAD + Setups.spaces(782) + "x");
        Checks.due("offset 799", x.errorOffset(), 799);
        Checks.load(x, HEAD + "window" + Setups.spaces(777));
        Checks.due("offset 800", x.errorOffset(), 800);
        Checks.load(x, "contract 41");
        Checks.due("offset 9", x.errorOffset(), 9);
        Checks.append(x, HEAD);
        Checks.due("append does not matter", x.errorOffset(), 9);
    }

    @Sentence(in = "Promise 4", says = "-1 if it found none or if there was no such call.")
    static void noOffset() {
        SupplyContract x = new SupplyContract();
        Checks.due("no load", x.errorOffset(), -1);
        Checks.throwsArgument("a load that throws", () -> x.load(1));
        Checks.due("no load but one that throws", x.errorOffset(), -1);
        Checks.load(x, HEAD);
        Checks.due("a load without error", x.errorOffset(), -1);
        Checks.load(x, "x");
        Checks.due("an error", x.errorOffset(), 0);
        Checks.load(x, HEAD);
        Checks.due("a load without error after it", x.errorOffset(), -1);
        Checks.throwsArgument("a load that throws after it", () -> x.load(1));
        Checks.due("still none", x.errorOffset(), -1);
    }
}

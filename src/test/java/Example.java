/** The example of README.md: a contract of four periods; ReadmeTest looks whether README.md tells it as it is. */
public final class Example {
    private static final String TEXT = "contract 4 100 5 2; spot 200 9; band 0 10 20; ladder 10 3 50 8; window 1; "
            + "minimum 80; miss 4; waivers 1 0;";

    public static void main(String[] args) {
        SupplyContract x = new SupplyContract();
        for (int at = 0; at < TEXT.length(); at += 20) {
            x.append(word(at), word(at + 4), word(at + 8), word(at + 12), word(at + 16));
        }
        show("periods", x.load(TEXT.length()));
        show("greatest order without a breach", x.allowed(0, x.forecastOf(0), true));
        show("penalty of an order of 150", x.order(150));
        show("invoice of period 0", x.close());
        show("units still open", x.openUnits(0));
        show("penalty of a forecast of 130", x.forecast(2, 130));
        show("invoice of period 1", x.close());
        show("projected costs of periods 2 and 3", x.projected());
        show("best capacity for period 3", x.bestReserved(500));
        show("periods with another capacity", x.reserve(3, 80));
        show("projected costs now", x.projected());
        show("breach to waive", x.bestWaiver(0));
        show("penalty waived", x.waive(0));
        show("balance", x.balance());
        show("changes that can still be undone", x.undo());
        show("balance with the penalty", x.balance());
    }

    /** Four bytes of the text, the most significant one first; behind its end there are spaces. */
    private static int word(int from) {
        int word = 0;
        for (int at = from; at < from + 4; at++) {
            word = word << 8 | (at < TEXT.length() ? TEXT.charAt(at) : ' ');
        }
        return word;
    }

    private static void show(String what, long answer) {
        System.out.println(what + ": " + answer);
    }
}

import java.math.BigInteger;

/** What tests of setup texts share: texts that are accepted, texts that are refused, and the edges of a number. */
final class Setups {
    static final String HEAD = "contract 4 5 6 7;";
    private static final BigInteger TWO = BigInteger.TWO;

    private Setups() {
    }

    static void accepted(String text) {
        SupplyContract x = new SupplyContract();
        Checks.holds("load of " + text, Checks.load(x, text) >= 2);
        Checks.due("error offset of " + text, x.errorOffset(), -1);
    }

    static void refused(String text, int code, int offset) {
        SupplyContract x = new SupplyContract();
        Checks.due("load of " + text, Checks.load(x, text), code);
        Checks.due("error offset of " + text, x.errorOffset(), offset);
        Checks.due("periods after " + text, x.periodCount(), 0);
    }

    static void syntax(String text, int offset) {
        refused(text, SupplyContract.SYNTAX_ERROR, offset);
    }

    static void outside(String text, int offset) {
        refused(text, SupplyContract.OUT_OF_RANGE, offset);
    }

    /** The number between the two parts of a text is accepted from least to most and nowhere else. */
    static void range(String before, int least, int most, String after) {
        accepted(before + least + after);
        accepted(before + most + after);
        outside(before + (most + 1) + after, before.length());
        if (least > 0) {
            outside(before + (least - 1) + after, before.length());
        }
        for (int bits : new int[] {8, 16, 31, 32, 63, 64, 128}) {
            // Such a number would be inside its range again if it were kept in too few bits.
            BigInteger wrapped = TWO.pow(bits).add(BigInteger.valueOf(least));
            if (wrapped.compareTo(BigInteger.valueOf(most)) > 0) {
                outside(before + wrapped + after, before.length());
            }
        }
    }

    /** Looks at the initial forecasts of a contract of 50 reserved units. */
    static void forecasts(String demand, int... want) {
        SupplyContract x = Checks.contract("contract 6 50 1 1;demand " + demand + ";");
        for (int p = 0; p < want.length; p++) {
            Checks.due(demand + " in period " + p, x.forecastOf(p), want[p]);
        }
    }

    static String spaces(int count) {
        return " ".repeat(count);
    }
}

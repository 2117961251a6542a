/** The sentence of "Waivers", condition by condition. */
final class WaiverSentences {
    private static final String IN = "Waivers";

    private WaiverSentences() {
    }

    /** A contract of 40 periods with a breach of penalty 1 for each of the periods, in their order. */
    static SupplyContract breached(String waivers, int... periods) {
        SupplyContract x = Checks.contract("contract 40 100 1 0;band 0 0 0;ladder 0 1;" + waivers);
        for (int period : periods) {
            x.forecast(period, x.forecastOf(period) + 1);
        }
        return x;
    }

    @Sentence(in = IN, says = "A breach can be waived if it is recorded")
    static void aRecordedBreach() {
        SupplyContract x = breached("waivers 4 0;", 1, 2);
        Checks.throwsIndex("not recorded: -1", () -> x.waive(-1));
        Checks.throwsIndex("not recorded: 2", () -> x.waive(2));
        Checks.due("the last one recorded", x.waive(1), 1);
        Checks.due("the first one recorded", x.waive(0), 1);
    }

    @Sentence(in = IN, says = "and not waived,")
    static void notWaivedYet() {
        SupplyContract x = breached("waivers 4 0;", 1, 1);
        x.waive(0);
        Checks.throwsState("waived already", () -> x.waive(0));
        Checks.due("the other one", x.waive(1), 1);
        Checks.throwsState("the first one again", () -> x.waive(0));
        Checks.throwsState("the other one again", () -> x.waive(1));
        x.undo();
        Checks.due("not waived any more after undo", x.waive(1), 1);
    }

    @Sentence(in = IN, says = "if fewer breaches are waived than the number of waivers,")
    static void fewerThanTheNumberOfWaivers() {
        for (int waivers = 0; waivers <= 4; waivers++) {
            SupplyContract x = breached("waivers " + waivers + " 0;", 1, 2, 3, 4, 5);
            for (int b = 0; b < waivers; b++) {
                Checks.due(waivers + " waivers, breach " + b, x.waive(b), 1);
            }
            int next = waivers;
            Checks.throwsState(waivers + " waivers: one more", () -> x.waive(next));
            if (waivers > 0) {
                x.undo();
                Checks.due(waivers + " waivers: one more after undo", x.waive(next), 1);
            }
        }
        SupplyContract none = breached("", 1);
        Checks.throwsState("no waivers", () -> none.waive(0));
    }

    @Sentence(in = IN,
        says = "and if the period of each waived breach differs from its period by at least the gap.")
    static void theGap() {
        for (int gap : new int[] {1, 2, 3, 18}) {
            SupplyContract x = breached("waivers 4 " + gap + ";", 20, 20, 20 + gap - 1, 20 + gap, 20 - gap + 1, 20 - gap);
            x.waive(0);
            Checks.throwsState("gap " + gap + ": the same period", () -> x.waive(1));
            Checks.throwsState("gap " + gap + ": too near, later", () -> x.waive(2));
            Checks.throwsState("gap " + gap + ": too near, earlier", () -> x.waive(4));
            Checks.due("gap " + gap + ": later", x.waive(3), 1);
            Checks.due("gap " + gap + ": earlier", x.waive(5), 1);
        }
    }

    @Sentence(in = IN,
        says = "and if the period of each waived breach differs from its period by at least the gap.")
    static void aGapOf0() {
        SupplyContract x = breached("waivers 4 0;", 20, 20, 20, 20);
        for (int b = 0; b < 4; b++) {
            Checks.due("the same period: " + b, x.waive(b), 1);
        }
    }

    @Sentence(in = IN,
        says = "and if the period of each waived breach differs from its period by at least the gap.")
    static void theGreatestGaps() {
        SupplyContract x = breached("waivers 4 39;", 39, 1);
        x.order(101);
        x.waive(0);
        Checks.throwsState("a gap of 39: 38 periods", () -> x.waive(1));
        Checks.due("a gap of 39: 39 periods", x.waive(2), 1);
        SupplyContract y = breached("waivers 4 40;", 39);
        y.order(101);
        Checks.due("a gap of 40: one breach alone", y.waive(0), 1);
        Checks.throwsState("a gap of 40: 39 periods", () -> y.waive(1));
    }

    @Sentence(in = IN, says = "the period of each waived breach")
    static void theGapToEachWaivedBreach() {
        SupplyContract x = breached("waivers 4 5;", 10, 20, 15, 14, 24, 16);
        x.waive(0);
        x.waive(1);
        Checks.throwsState("too near to the first", () -> x.waive(3));
        Checks.throwsState("too near to the second", () -> x.waive(4));
        Checks.throwsState("too near to the second, from below", () -> x.waive(5));
        Checks.due("far enough from both", x.waive(2), 1);
    }
}

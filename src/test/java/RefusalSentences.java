import java.util.function.Supplier;
import java.util.function.ToLongFunction;

/** The two sentences of "Changes" about exceptions, method by method. */
final class RefusalSentences {
    private static final String FIRST =
        "If several exceptions apply to a call, the one that is listed first with the method is thrown.";
    private static final String NOTHING = "A method that throws an exception changes nothing.";
    private static final int[] NO_PERIOD = {-1, 4, 39, 40, Integer.MIN_VALUE, Integer.MAX_VALUE};
    private static final int[] NO_UNITS = {-1, 10000, Integer.MIN_VALUE, Integer.MAX_VALUE};
    private static final int[] NO_LEAD = {-1, 40, Integer.MIN_VALUE, Integer.MAX_VALUE};
    private static final int[] NO_BREACH = {-1, 3, 19, 20, Integer.MIN_VALUE, Integer.MAX_VALUE};

    private RefusalSentences() {
    }

    /** In period 1 of 4, with three breaches, one of them waived, some changes, a text in the buffer and an error. */
    private static SupplyContract midway() {
        SupplyContract x = new SupplyContract();
        Checks.load(x, "contract 4 10 5 2;spot 3 9;band 0 10 10;ladder 0 2 50 4;window 1;minimum 80;miss 4;"
            + "waivers 2 2;demand 8+season;");
        x.forecast(2, 30);
        x.order(25);
        x.close();
        x.forecast(3, 30);
        x.waive(0);
        Checks.load(x, "contract 2 x");
        Checks.append(x, "contract 3 1 2 3;   ");
        return x;
    }

    private static SupplyContract withoutWaivers() {
        SupplyContract x = midway();
        x.waive(1);
        return x;
    }

    private static SupplyContract ordered() {
        SupplyContract x = midway();
        x.order(9);
        return x;
    }

    private static SupplyContract ended() {
        SupplyContract x = midway();
        x.close();
        x.close();
        x.close();
        return x;
    }

    private static SupplyContract empty() {
        SupplyContract x = new SupplyContract();
        Checks.append(x, "contract 3 1 2 3;   ");
        return x;
    }

    /** Does the call on one of two equal objects and looks whether they are still equal. */
    private static void refused(String exception, Supplier<SupplyContract> recipe, ToLongFunction<SupplyContract> call) {
        SupplyContract tried = recipe.get();
        SupplyContract other = recipe.get();
        Checks.dueText("the exception", Checks.answer(() -> call.applyAsLong(tried)), "throws." + exception);
        Checks.dueText("the exception again", Checks.answer(() -> call.applyAsLong(tried)), "throws." + exception);
        Checks.dueText("all that can be seen", Seen.all(tried), Seen.all(other));
    }

    private static void index(Supplier<SupplyContract> recipe, ToLongFunction<SupplyContract> call) {
        refused("IndexOutOfBoundsException", recipe, call);
    }

    private static void argument(Supplier<SupplyContract> recipe, ToLongFunction<SupplyContract> call) {
        refused("IllegalArgumentException", recipe, call);
    }

    private static void state(Supplier<SupplyContract> recipe, ToLongFunction<SupplyContract> call) {
        refused("IllegalStateException", recipe, call);
    }

    @Sentence(in = "Changes", says = NOTHING)
    static void load() {
        for (int length : new int[] {-1, 21, 800, 801, Integer.MIN_VALUE, Integer.MAX_VALUE}) {
            argument(RefusalSentences::midway, x -> x.load(length));
            argument(RefusalSentences::empty, x -> x.load(length));
            argument(RefusalSentences::ended, x -> x.load(length));
        }
    }

    @Sentence(in = "Changes", says = NOTHING)
    static void reservedIn() {
        for (int period : NO_PERIOD) {
            index(RefusalSentences::midway, x -> x.reservedIn(period));
        }
        index(RefusalSentences::empty, x -> x.reservedIn(0));
    }

    @Sentence(in = "Changes", says = NOTHING)
    static void forecastOf() {
        for (int period : NO_PERIOD) {
            index(RefusalSentences::midway, x -> x.forecastOf(period));
        }
        index(RefusalSentences::empty, x -> x.forecastOf(0));
    }

    @Sentence(in = "Changes", says = NOTHING)
    static void orderOf() {
        for (int period : NO_PERIOD) {
            index(RefusalSentences::midway, x -> x.orderOf(period));
        }
        index(RefusalSentences::empty, x -> x.orderOf(0));
    }

    @Sentence(in = "Changes", says = NOTHING)
    static void openUnits() {
        for (int period : NO_PERIOD) {
            index(RefusalSentences::midway, x -> x.openUnits(period));
        }
        index(RefusalSentences::empty, x -> x.openUnits(0));
    }

    @Sentence(in = "Changes", says = NOTHING)
    static void missedUnits() {
        for (int period : NO_PERIOD) {
            index(RefusalSentences::midway, x -> x.missedUnits(period));
        }
        index(RefusalSentences::empty, x -> x.missedUnits(0));
    }

    @Sentence(in = "Changes", says = NOTHING)
    static void invoice() {
        for (int period : NO_PERIOD) {
            index(RefusalSentences::midway, x -> x.invoice(period));
        }
        index(RefusalSentences::empty, x -> x.invoice(0));
    }

    @Sentence(in = "Changes", says = NOTHING)
    static void bandFor() {
        for (int lead : NO_LEAD) {
            argument(RefusalSentences::midway, x -> x.bandFor(lead));
            argument(RefusalSentences::empty, x -> x.bandFor(lead));
        }
    }

    @Sentence(in = "Changes", says = NOTHING)
    static void allowed() {
        for (int lead : NO_LEAD) {
            argument(RefusalSentences::midway, x -> x.allowed(lead, 5, true));
            argument(RefusalSentences::empty, x -> x.allowed(lead, 5, false));
        }
        for (int units : NO_UNITS) {
            argument(RefusalSentences::midway, x -> x.allowed(0, units, false));
            argument(RefusalSentences::empty, x -> x.allowed(0, units, true));
        }
    }

    @Sentence(in = "Changes", says = NOTHING)
    static void penaltyFor() {
        for (int units : NO_UNITS) {
            argument(RefusalSentences::midway, x -> x.penaltyFor(units, 5));
            argument(RefusalSentences::midway, x -> x.penaltyFor(5, units));
            argument(RefusalSentences::empty, x -> x.penaltyFor(units, 5));
            argument(RefusalSentences::empty, x -> x.penaltyFor(0, units));
        }
    }

    @Sentence(in = "Changes", says = NOTHING)
    static void breachPeriod() {
        for (int breach : NO_BREACH) {
            index(RefusalSentences::midway, x -> x.breachPeriod(breach));
        }
        index(RefusalSentences::empty, x -> x.breachPeriod(0));
    }

    @Sentence(in = "Changes", says = NOTHING)
    static void breachKind() {
        for (int breach : NO_BREACH) {
            index(RefusalSentences::midway, x -> x.breachKind(breach));
        }
        index(RefusalSentences::empty, x -> x.breachKind(0));
    }

    @Sentence(in = "Changes", says = NOTHING)
    static void breachPenalty() {
        for (int breach : NO_BREACH) {
            index(RefusalSentences::midway, x -> x.breachPenalty(breach));
        }
        index(RefusalSentences::empty, x -> x.breachPenalty(0));
    }

    @Sentence(in = "Changes", says = NOTHING)
    static void isWaived() {
        for (int breach : NO_BREACH) {
            index(RefusalSentences::midway, x -> Checks.bit(() -> x.isWaived(breach)));
        }
        index(RefusalSentences::empty, x -> Checks.bit(() -> x.isWaived(0)));
    }

    @Sentence(in = "Changes", says = NOTHING)
    static void bestWaiver() {
        for (int k : new int[] {-1, Integer.MIN_VALUE}) {
            argument(RefusalSentences::midway, x -> x.bestWaiver(k));
            argument(RefusalSentences::empty, x -> x.bestWaiver(k));
        }
    }

    @Sentence(in = "Changes", says = NOTHING)
    static void bestReserved() {
        for (int limit : new int[] {-1, 501, Integer.MIN_VALUE, Integer.MAX_VALUE}) {
            argument(RefusalSentences::midway, x -> x.bestReserved(limit));
        }
        state(RefusalSentences::ended, x -> x.bestReserved(500));
        state(RefusalSentences::empty, x -> x.bestReserved(500));
    }

    @Sentence(in = "Changes", says = NOTHING)
    static void forecast() {
        for (int period : NO_PERIOD) {
            index(RefusalSentences::midway, x -> x.forecast(period, 99));
        }
        for (int units : NO_UNITS) {
            argument(RefusalSentences::midway, x -> x.forecast(3, units));
        }
        state(RefusalSentences::midway, x -> x.forecast(0, 99));
        state(RefusalSentences::midway, x -> x.forecast(1, 99));
        state(RefusalSentences::ended, x -> x.forecast(3, 99));
        index(RefusalSentences::empty, x -> x.forecast(0, 99));
    }

    @Sentence(in = "Changes", says = NOTHING)
    static void order() {
        for (int units : NO_UNITS) {
            argument(RefusalSentences::midway, x -> x.order(units));
        }
        state(RefusalSentences::ordered, x -> x.order(99));
        state(RefusalSentences::ended, x -> x.order(99));
        state(RefusalSentences::empty, x -> x.order(99));
    }

    @Sentence(in = "Changes", says = NOTHING)
    static void close() {
        state(RefusalSentences::ended, SupplyContract::close);
        state(RefusalSentences::empty, SupplyContract::close);
    }

    @Sentence(in = "Changes", says = NOTHING)
    static void reserve() {
        for (int period : NO_PERIOD) {
            index(RefusalSentences::midway, x -> x.reserve(period, 99));
        }
        for (int units : NO_UNITS) {
            argument(RefusalSentences::midway, x -> x.reserve(2, units));
        }
        state(RefusalSentences::midway, x -> x.reserve(0, 99));
        state(RefusalSentences::midway, x -> x.reserve(1, 99));
        state(RefusalSentences::ended, x -> x.reserve(3, 99));
        index(RefusalSentences::empty, x -> x.reserve(0, 99));
    }

    @Sentence(in = "Changes", says = NOTHING)
    static void waive() {
        for (int breach : NO_BREACH) {
            index(RefusalSentences::midway, x -> x.waive(breach));
        }
        // Breach 0 is waived, breach 2 is too near to it, and after breach 1 no waivers are left.
        state(RefusalSentences::midway, x -> x.waive(0));
        state(RefusalSentences::midway, x -> x.waive(2));
        for (int breach = 0; breach < 3; breach++) {
            int waived = breach;
            state(RefusalSentences::withoutWaivers, x -> x.waive(waived));
        }
        index(RefusalSentences::empty, x -> x.waive(0));
    }

    @Sentence(in = "Changes", says = FIRST)
    static void bestReservedListsTheLimitFirst() {
        for (int limit : new int[] {-1, 501}) {
            argument(RefusalSentences::ended, x -> x.bestReserved(limit));
            argument(RefusalSentences::empty, x -> x.bestReserved(limit));
        }
        SupplyContract last = Checks.contract("contract 2 1 1 1;");
        last.close();
        Checks.throwsArgument("in the last period", () -> last.bestReserved(501));
        Checks.throwsState("in the last period", () -> last.bestReserved(0));
    }

    @Sentence(in = "Changes", says = FIRST)
    static void forecastListsThePeriodThenTheQuantityThenTheState() {
        for (int units : NO_UNITS) {
            for (int period : NO_PERIOD) {
                index(RefusalSentences::midway, x -> x.forecast(period, units));
                index(RefusalSentences::ended, x -> x.forecast(period, units));
            }
            index(RefusalSentences::empty, x -> x.forecast(0, units));
            argument(RefusalSentences::midway, x -> x.forecast(0, units));
            argument(RefusalSentences::midway, x -> x.forecast(1, units));
            argument(RefusalSentences::ended, x -> x.forecast(3, units));
        }
        index(RefusalSentences::midway, x -> x.forecast(-1, 5));
        index(RefusalSentences::ended, x -> x.forecast(4, 5));
    }

    @Sentence(in = "Changes", says = FIRST)
    static void orderListsTheQuantityFirst() {
        for (int units : NO_UNITS) {
            argument(RefusalSentences::ordered, x -> x.order(units));
            argument(RefusalSentences::ended, x -> x.order(units));
            argument(RefusalSentences::empty, x -> x.order(units));
        }
    }

    @Sentence(in = "Changes", says = FIRST)
    static void reserveListsThePeriodThenTheCapacityThenTheState() {
        for (int units : NO_UNITS) {
            for (int period : NO_PERIOD) {
                index(RefusalSentences::midway, x -> x.reserve(period, units));
                index(RefusalSentences::ended, x -> x.reserve(period, units));
            }
            index(RefusalSentences::empty, x -> x.reserve(0, units));
            argument(RefusalSentences::midway, x -> x.reserve(0, units));
            argument(RefusalSentences::midway, x -> x.reserve(1, units));
            argument(RefusalSentences::ended, x -> x.reserve(3, units));
        }
        index(RefusalSentences::midway, x -> x.reserve(-1, 5));
        index(RefusalSentences::ended, x -> x.reserve(4, 5));
    }

    @Sentence(in = "Changes", says = FIRST)
    static void waiveListsTheBreachFirst() {
        SupplyContract x = WaiverSentences.breached("", 1);
        Checks.throwsState("no waivers", () -> x.waive(0));
        Checks.throwsIndex("no waivers and no such breach", () -> x.waive(1));
        Checks.throwsIndex("no waivers and a negative breach", () -> x.waive(-1));
        SupplyContract full = WaiverSentences.breached("waivers 4 0;");
        for (int k = 0; k < 21; k++) {
            full.forecast(1, 200 + k);
        }
        Checks.throwsIndex("a breach that is only counted", () -> full.waive(20));
    }
}

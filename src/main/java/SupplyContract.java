import java.util.Arrays;

/** The administration of a supply contract with reserved capacity; README.md says how to use it. */
public final class SupplyContract {
    public static final int SYNTAX_ERROR = -2;
    public static final int OUT_OF_RANGE = -3;
    public static final int TOO_MANY = -4;
    public static final int TOO_DEEP = -5;

    private static final int MAX_TEXT = 800;
    private static final int APPENDED = 20;
    private static final int MAX_PERIODS = 40;
    private static final int MAX_LEADS = 40;
    private static final int MAX_UNITS = 9999;
    private static final int MAX_PRICE = 999;
    private static final int MAX_STEP_PERCENT = 999;
    private static final int MAX_STEPS = 6;
    private static final int MAX_BREACHES = 20;
    private static final int MAX_WAIVERS = 4;
    private static final int MAX_UNDO = 8;
    private static final int MAX_DEPTH = 4;
    private static final int MAX_LEVEL = 500;
    private static final int FORECAST_BREACH = 1;
    private static final int ORDER_BREACH = 2;

    private final Contract now = new Contract();
    private final History history = new History();
    private final SetupReader setup = new SetupReader();
    private int lastErrorOffset = -1;
    private final WaiverSearch waiverSearch = new WaiverSearch();
    private final Accounts start = new Accounts();
    private final Accounts trial = new Accounts();

    public SupplyContract() {
    }

    public int append(int w0, int w1, int w2, int w3, int w4) {
        InputText input = setup.in;
        if (input.filled + APPENDED > MAX_TEXT) {
            return -1;
        }
        input.addWord(w0);
        input.addWord(w1);
        input.addWord(w2);
        input.addWord(w3);
        input.addWord(w4);
        return input.filled;
    }

    public int load(int length) throws IllegalArgumentException {
        if (length < 0 || length > setup.in.filled) {
            throw new IllegalArgumentException("the buffer has no such length");
        }
        int error = setup.read(length);
        setup.in.filled = 0;
        lastErrorOffset = setup.in.errorAt;
        if (error != 0) {
            return error;
        }
        history.keep(now);
        now.copyFrom(setup.draft);
        return now.terms.periods;
    }

    public int errorOffset() {
        return lastErrorOffset;
    }

    public int periodCount() {
        return now.terms.periods;
    }

    public int clock() {
        return now.accounts.clock;
    }

    public int reservedIn(int period) throws IndexOutOfBoundsException {
        checkPeriod(period);
        return now.accounts.reserved[period];
    }

    public int forecastOf(int period) throws IndexOutOfBoundsException {
        checkPeriod(period);
        return now.accounts.forecast[period];
    }

    public int orderOf(int period) throws IndexOutOfBoundsException {
        checkPeriod(period);
        return now.accounts.order[period];
    }

    public int openUnits(int period) throws IndexOutOfBoundsException {
        checkPeriod(period);
        return now.accounts.open[period];
    }

    public int missedUnits(int period) throws IndexOutOfBoundsException {
        checkPeriod(period);
        return now.accounts.missed[period];
    }

    public long invoice(int period) throws IndexOutOfBoundsException {
        checkPeriod(period);
        return now.accounts.invoice[period];
    }

    public long balance() {
        return now.accounts.invoiceSum(now.terms.periods) + now.breaches.unwaivedSum();
    }

    public int bandFor(int lead) throws IllegalArgumentException {
        checkLead(lead);
        return now.terms.bandLead(lead);
    }

    public int allowed(int lead, int forecast, boolean upper) throws IllegalArgumentException {
        checkLead(lead);
        checkUnits(forecast);
        return upper ? now.terms.greatest(lead, forecast) : now.terms.smallest(lead, forecast);
    }

    public int penaltyFor(int excess, int forecast) throws IllegalArgumentException {
        checkUnits(excess);
        checkUnits(forecast);
        return now.terms.penalty(excess, forecast);
    }

    public int breachCount() {
        return now.breaches.recorded;
    }

    public int allBreaches() {
        return now.breaches.all;
    }

    public int breachPeriod(int breach) throws IndexOutOfBoundsException {
        checkBreach(breach);
        return now.breaches.period[breach];
    }

    public int breachKind(int breach) throws IndexOutOfBoundsException {
        checkBreach(breach);
        return now.breaches.kind[breach];
    }

    public int breachPenalty(int breach) throws IndexOutOfBoundsException {
        checkBreach(breach);
        return now.breaches.penalty[breach];
    }

    public boolean isWaived(int breach) throws IndexOutOfBoundsException {
        checkBreach(breach);
        return now.breaches.waived[breach];
    }

    public int waiversLeft() {
        return now.terms.waivers - now.breaches.waivedCount;
    }

    public int bestWaiving() {
        waiverSearch.run(now.terms, now.breaches);
        return waiverSearch.bestSum;
    }

    public int bestWaiver(int k) throws IllegalArgumentException {
        if (k < 0) {
            throw new IllegalArgumentException("the index is negative");
        }
        waiverSearch.run(now.terms, now.breaches);
        return waiverSearch.breachAt(k);
    }

    public long projected() {
        trial.copyFrom(now.accounts);
        return trial.closeRest(now.terms);
    }

    public int bestReserved(int limit) throws IllegalArgumentException, IllegalStateException {
        if (limit < 0 || limit > MAX_LEVEL) {
            throw new IllegalArgumentException("the limit is not 0 to 500");
        }
        if (now.accounts.clock + 1 >= now.terms.periods) {
            throw new IllegalStateException("there is no period after the current one");
        }
        return cheapestLevel(limit);
    }

    public int forecast(int period, int quantity)
            throws IndexOutOfBoundsException, IllegalArgumentException, IllegalStateException {
        checkLaterPeriod(period, quantity);
        history.keep(now);
        int lead = period - now.accounts.clock;
        int penalty = recordIfBreach(period, FORECAST_BREACH, lead, quantity);
        now.accounts.forecast[period] = quantity;
        return penalty;
    }

    public int order(int quantity) throws IllegalArgumentException, IllegalStateException {
        checkUnits(quantity);
        checkRunning();
        int period = now.accounts.clock;
        if (now.accounts.order[period] >= 0) {
            throw new IllegalStateException("the order has been placed");
        }
        history.keep(now);
        now.accounts.placeOrder(quantity);
        return recordIfBreach(period, ORDER_BREACH, 0, quantity);
    }

    public long close() throws IllegalStateException {
        checkRunning();
        history.keep(now);
        return now.accounts.closePeriod(now.terms);
    }

    public int reserve(int period, int reserved)
            throws IndexOutOfBoundsException, IllegalArgumentException, IllegalStateException {
        checkLaterPeriod(period, reserved);
        history.keep(now);
        return now.accounts.reserveFrom(period, now.terms.periods, reserved);
    }

    public int waive(int breach) throws IndexOutOfBoundsException, IllegalStateException {
        checkBreach(breach);
        if (!now.breaches.canBeWaived(breach, now.terms)) {
            throw new IllegalStateException("the breach cannot be waived");
        }
        history.keep(now);
        return now.breaches.markWaived(breach);
    }

    public int undo() {
        return history.giveBack(now);
    }

    public long checksum() {
        long sum = now.accounts.clock;
        sum = 31 * sum + balance();
        sum = 31 * sum + now.breaches.all;
        sum = now.accounts.mixInto(sum, now.terms.periods);
        return now.breaches.mixInto(sum);
    }

    private void checkPeriod(int period) {
        if (period < 0 || period >= now.terms.periods) {
            throw new IndexOutOfBoundsException("there is no such period");
        }
    }

    private void checkBreach(int breach) {
        if (breach < 0 || breach >= now.breaches.recorded) {
            throw new IndexOutOfBoundsException("there is no such breach");
        }
    }

    private void checkLead(int lead) {
        if (lead < 0 || lead >= MAX_LEADS) {
            throw new IllegalArgumentException("the lead is not 0 to 39");
        }
    }

    private void checkUnits(int units) {
        if (units < 0 || units > MAX_UNITS) {
            throw new IllegalArgumentException("the number of units is not 0 to 9999");
        }
    }

    private void checkRunning() {
        if (now.accounts.clock >= now.terms.periods) {
            throw new IllegalStateException("there is no contract, or it has ended");
        }
    }

    /** forecast and reserve list their exceptions in this order. */
    private void checkLaterPeriod(int period, int units) {
        checkPeriod(period);
        checkUnits(units);
        if (period <= now.accounts.clock) {
            throw new IllegalStateException("the period is not after the current one");
        }
    }

    /** Must run before the forecast of the period is revised: the old one counts for the band. */
    private int recordIfBreach(int period, int kind, int lead, int quantity) {
        int forecast = now.accounts.forecast[period];
        int excess = now.terms.excess(lead, forecast, quantity);
        if (excess == 0) {
            return 0;
        }
        return now.breaches.addBreach(period, kind, now.terms.penalty(excess, forecast));
    }

    private int cheapestLevel(int limit) {
        // The current period keeps its capacity, so its costs are the same for every level: it is closed once.
        start.copyFrom(now.accounts);
        start.closePeriod(now.terms);
        int best = 0;
        long bestCosts = costsAtLevel(0);
        for (int level = 1; level <= limit; level++) {
            long costs = costsAtLevel(level);
            if (costs < bestCosts) {
                bestCosts = costs;
                best = level;
            }
        }
        return best;
    }

    private long costsAtLevel(int level) {
        trial.copyFrom(start);
        trial.reserveFrom(trial.clock, now.terms.periods, level);
        return trial.closeRest(now.terms);
    }

    /** What the setup text fixes for the whole contract. */
    private static final class Terms {
        private int periods = 0;
        private int unitPrice = 0;
        private int fee = 0;
        private int spotLimit = 0;
        private int spotPrice = 0;
        private int window = 0;
        private int minimum = 0;
        private int missPrice = 0;
        private int waivers = 0;
        private int gap = 0;
        private int steps = 0;
        private final int[] stepPercent = new int[MAX_STEPS];
        private final int[] stepPrice = new int[MAX_STEPS];
        /** Bit d stands for a band of lead d; low and high hold something only there. */
        private long bandLeads = 0;
        private final int[] low = new int[MAX_LEADS];
        private final int[] high = new int[MAX_LEADS];

        private void clear() {
            periods = 0;
            unitPrice = 0;
            fee = 0;
            spotLimit = 0;
            spotPrice = 0;
            window = 0;
            minimum = 0;
            missPrice = 0;
            waivers = 0;
            gap = 0;
            steps = 0;
            bandLeads = 0;
        }

        private void copyFrom(Terms other) {
            periods = other.periods;
            unitPrice = other.unitPrice;
            fee = other.fee;
            spotLimit = other.spotLimit;
            spotPrice = other.spotPrice;
            window = other.window;
            minimum = other.minimum;
            missPrice = other.missPrice;
            waivers = other.waivers;
            gap = other.gap;
            steps = other.steps;
            bandLeads = other.bandLeads;
            System.arraycopy(other.stepPercent, 0, stepPercent, 0, MAX_STEPS);
            System.arraycopy(other.stepPrice, 0, stepPrice, 0, MAX_STEPS);
            System.arraycopy(other.low, 0, low, 0, MAX_LEADS);
            System.arraycopy(other.high, 0, high, 0, MAX_LEADS);
        }

        private boolean hasBand(int lead) {
            return (bandLeads >>> lead & 1) != 0;
        }

        private void addBand(int lead, int lowPercent, int highPercent) {
            bandLeads |= 1L << lead;
            low[lead] = lowPercent;
            high[lead] = highPercent;
        }

        private int bandLead(int lead) {
            for (int band = lead; band >= 0; band--) {
                if (hasBand(band)) {
                    return band;
                }
            }
            return -1;
        }

        private int smallest(int lead, int forecast) {
            int band = bandLead(lead);
            return band < 0 ? 0 : forecast - forecast * low[band] / 100;
        }

        private int greatest(int lead, int forecast) {
            int band = bandLead(lead);
            return band < 0 ? MAX_UNITS : forecast + forecast * high[band] / 100;
        }

        private int excess(int lead, int forecast, int quantity) {
            int below = smallest(lead, forecast) - quantity;
            int above = quantity - greatest(lead, forecast);
            return Math.max(0, Math.max(below, above));
        }

        private int penalty(int excess, int forecast) {
            int percent = forecast > 0 ? excess * 100 / forecast : excess * 100;
            int price = 0;
            // The percentages of the steps increase, so the last step that is reached counts.
            for (int step = 0; step < steps; step++) {
                if (stepPercent[step] <= percent) {
                    price = stepPrice[step];
                }
            }
            return excess * price;
        }
    }

    /** The periods with their quantities and invoices. */
    private static final class Accounts {
        private static final int NO_ORDER = -1;

        private int clock = 0;
        private final int[] reserved = new int[MAX_PERIODS];
        private final int[] forecast = new int[MAX_PERIODS];
        private final int[] order = new int[MAX_PERIODS];
        private final int[] open = new int[MAX_PERIODS];
        private final int[] missed = new int[MAX_PERIODS];
        private final long[] invoice = new long[MAX_PERIODS];

        private void clear(int initialReserved) {
            clock = 0;
            Arrays.fill(reserved, initialReserved);
            Arrays.fill(forecast, initialReserved);
            Arrays.fill(order, NO_ORDER);
            Arrays.fill(open, 0);
            Arrays.fill(missed, 0);
            Arrays.fill(invoice, 0L);
        }

        private void copyFrom(Accounts other) {
            clock = other.clock;
            System.arraycopy(other.reserved, 0, reserved, 0, MAX_PERIODS);
            System.arraycopy(other.forecast, 0, forecast, 0, MAX_PERIODS);
            System.arraycopy(other.order, 0, order, 0, MAX_PERIODS);
            System.arraycopy(other.open, 0, open, 0, MAX_PERIODS);
            System.arraycopy(other.missed, 0, missed, 0, MAX_PERIODS);
            System.arraycopy(other.invoice, 0, invoice, 0, MAX_PERIODS);
        }

        private void placeOrder(int quantity) {
            order[clock] = quantity;
            open[clock] = quantity;
        }

        private int reserveFrom(int period, int end, int units) {
            int changed = 0;
            for (int p = period; p < end; p++) {
                if (reserved[p] != units) {
                    reserved[p] = units;
                    changed++;
                }
            }
            return changed;
        }

        /** Only for a clock before the end of the contract. */
        private long closePeriod(Terms terms) {
            int period = clock;
            if (order[period] < 0) {
                placeOrder(forecast[period]);
            }
            int delivered = deliverReserved(terms.window);
            int due = period - terms.window;
            int bought = due < 0 ? 0 : deliverSpot(due, terms.spotLimit);
            int lost = due < 0 ? 0 : missOpen(due);
            clock++;
            if (clock >= terms.periods) {
                lost += missAllOpen(terms.periods);
            }
            int shortfall = Math.max(0, reserved[period] * terms.minimum / 100 - order[period]);
            invoice[period] = (long) terms.fee * reserved[period]
                    + (long) terms.unitPrice * delivered
                    + (long) terms.spotPrice * bought
                    + (long) terms.unitPrice * shortfall
                    - (long) terms.missPrice * lost;
            return invoice[period];
        }

        private int deliverReserved(int window) {
            int capacity = reserved[clock];
            for (int p = Math.max(0, clock - window); p <= clock; p++) {
                int units = Math.min(capacity, open[p]);
                open[p] -= units;
                capacity -= units;
            }
            return reserved[clock] - capacity;
        }

        private int deliverSpot(int period, int limit) {
            int units = Math.min(limit, open[period]);
            open[period] -= units;
            return units;
        }

        private int missOpen(int period) {
            int units = open[period];
            open[period] = 0;
            missed[period] += units;
            return units;
        }

        private int missAllOpen(int periods) {
            int units = 0;
            for (int p = 0; p < periods; p++) {
                units += missOpen(p);
            }
            return units;
        }

        private long closeRest(Terms terms) {
            long costs = 0;
            for (int p = clock; p < terms.periods; p++) {
                costs += closePeriod(terms);
            }
            return costs;
        }

        private long invoiceSum(int periods) {
            long sum = 0;
            for (int p = 0; p < periods; p++) {
                sum += invoice[p];
            }
            return sum;
        }

        private long mixInto(long checksum, int periods) {
            long sum = checksum;
            for (int p = 0; p < periods; p++) {
                sum = 31 * sum + reserved[p];
                sum = 31 * sum + forecast[p];
                sum = 31 * sum + order[p];
                sum = 31 * sum + open[p];
                sum = 31 * sum + missed[p];
            }
            return sum;
        }
    }

    /** The breaches, recorded or only counted. */
    private static final class Breaches {
        private int recorded = 0;
        private int all = 0;
        private int waivedCount = 0;
        private final int[] period = new int[MAX_BREACHES];
        private final int[] kind = new int[MAX_BREACHES];
        private final int[] penalty = new int[MAX_BREACHES];
        private final boolean[] waived = new boolean[MAX_BREACHES];

        private void copyFrom(Breaches other) {
            recorded = other.recorded;
            all = other.all;
            waivedCount = other.waivedCount;
            System.arraycopy(other.period, 0, period, 0, MAX_BREACHES);
            System.arraycopy(other.kind, 0, kind, 0, MAX_BREACHES);
            System.arraycopy(other.penalty, 0, penalty, 0, MAX_BREACHES);
            System.arraycopy(other.waived, 0, waived, 0, MAX_BREACHES);
        }

        /** Returns the penalty that is due: 0 if the breach is only counted. */
        private int addBreach(int inPeriod, int ofKind, int due) {
            all++;
            if (recorded >= MAX_BREACHES) {
                return 0;
            }
            period[recorded] = inPeriod;
            kind[recorded] = ofKind;
            penalty[recorded] = due;
            waived[recorded] = false;
            recorded++;
            return due;
        }

        private boolean canBeWaived(int breach, Terms terms) {
            return !waived[breach] && waivedCount < terms.waivers && keepsGap(breach, terms.gap);
        }

        private boolean keepsGap(int breach, int gap) {
            for (int other = 0; other < recorded; other++) {
                if (waived[other] && distance(breach, other) < gap) {
                    return false;
                }
            }
            return true;
        }

        private int distance(int breach, int other) {
            return Math.abs(period[breach] - period[other]);
        }

        private int markWaived(int breach) {
            waived[breach] = true;
            waivedCount++;
            return penalty[breach];
        }

        private long unwaivedSum() {
            long sum = 0;
            for (int breach = 0; breach < recorded; breach++) {
                if (!waived[breach]) {
                    sum += penalty[breach];
                }
            }
            return sum;
        }

        private long mixInto(long checksum) {
            long sum = checksum;
            for (int breach = 0; breach < recorded; breach++) {
                sum = 31 * sum + (waived[breach] ? -1 : penalty[breach]);
            }
            return sum;
        }
    }

    /** All that a change can change, and so all that undo has to give back. */
    private static final class Contract {
        private final Terms terms = new Terms();
        private final Accounts accounts = new Accounts();
        private final Breaches breaches = new Breaches();

        private void copyFrom(Contract other) {
            terms.copyFrom(other.terms);
            accounts.copyFrom(other.accounts);
            breaches.copyFrom(other.breaches);
        }
    }

    /** The states before the latest changes, in a ring: a ninth change overwrites the oldest one. */
    private static final class History {
        private final Contract[] kept = new Contract[MAX_UNDO];
        private int next = 0;
        private int count = 0;

        private void keep(Contract state) {
            Contract slot = kept[next];
            if (slot == null) {
                slot = new Contract();
                kept[next] = slot;
            }
            slot.copyFrom(state);
            next = (next + 1) % MAX_UNDO;
            count = Math.min(count + 1, MAX_UNDO);
        }

        private int giveBack(Contract state) {
            int latest = (next + MAX_UNDO - 1) % MAX_UNDO;
            Contract slot = kept[latest];
            if (count == 0 || slot == null) {
                return -1;
            }
            state.copyFrom(slot);
            next = latest;
            count--;
            return count;
        }
    }

    /** Tries the sets of further waivers in lexicographic order and keeps the first one with the greatest sum. */
    private static final class WaiverSearch {
        private final int[] candidate = new int[MAX_BREACHES];
        private int candidates = 0;
        private int limit = 0;
        private int gap = 0;
        private final int[] chosen = new int[MAX_WAIVERS];
        private final int[] best = new int[MAX_WAIVERS];
        private int bestSize = 0;
        private int bestSum = 0;

        private void run(Terms terms, Breaches breaches) {
            limit = Math.min(terms.waivers - breaches.waivedCount, MAX_WAIVERS);
            gap = terms.gap;
            bestSize = 0;
            bestSum = 0;
            candidates = 0;
            for (int breach = 0; breach < breaches.recorded; breach++) {
                if (breaches.penalty[breach] > 0 && breaches.canBeWaived(breach, terms)) {
                    candidate[candidates] = breach;
                    candidates++;
                }
            }
            extend(breaches, 0, 0, 0);
        }

        private void extend(Breaches breaches, int from, int size, int sum) {
            if (sum > bestSum) {
                bestSum = sum;
                bestSize = size;
                System.arraycopy(chosen, 0, best, 0, size);
            }
            if (size >= limit) {
                return;
            }
            for (int c = from; c < candidates; c++) {
                if (fits(breaches, candidate[c], size)) {
                    chosen[size] = candidate[c];
                    extend(breaches, c + 1, size + 1, sum + breaches.penalty[candidate[c]]);
                }
            }
        }

        private boolean fits(Breaches breaches, int breach, int size) {
            for (int k = 0; k < size; k++) {
                if (breaches.distance(breach, chosen[k]) < gap) {
                    return false;
                }
            }
            return true;
        }

        private int breachAt(int k) {
            return k < bestSize ? best[k] : -1;
        }
    }

    /**
     * The input buffer and its tokens, which are read from left to right. Only the first error is kept, which is the
     * one with the smallest offset; after it the text counts as read to its end, so that every reader of it comes to
     * its end by itself.
     */
    private static final class InputText {
        /** Kinds of tokens; the kind of a sign is its byte, 0 to 255. */
        private static final int END = -1;
        private static final int NUMBER = 256;
        private static final int WORD = 257;
        private static final int FAR_TOO_GREAT = 100000;

        private final byte[] text = new byte[MAX_TEXT];
        private int filled = 0;
        private int length = 0;
        private int at = 0;
        private int kind = END;
        private int tokenStart = 0;
        private int value = 0;
        private int error = 0;
        private int errorAt = -1;

        /** Only if there is room for its 4 bytes. */
        private void addWord(int word) {
            for (int shift = 24; shift >= 0; shift -= 8) {
                text[filled] = (byte) (word >> shift);
                filled++;
            }
        }

        private void begin(int textLength) {
            length = textLength;
            error = 0;
            errorAt = -1;
            goTo(0);
        }

        private void goTo(int offset) {
            at = offset;
            advance();
        }

        private void advance() {
            while (at < length && text[at] == ' ') {
                at++;
            }
            tokenStart = at;
            if (at >= length) {
                kind = END;
            } else if (text[at] >= '0' && text[at] <= '9') {
                kind = NUMBER;
                value = 0;
                while (at < length && text[at] >= '0' && text[at] <= '9') {
                    value = Math.min(FAR_TOO_GREAT, 10 * value + text[at] - '0');
                    at++;
                }
            } else if (text[at] >= 'a' && text[at] <= 'z') {
                kind = WORD;
                while (at < length && text[at] >= 'a' && text[at] <= 'z') {
                    at++;
                }
            } else {
                kind = text[at] & 255;
                at++;
            }
        }

        private void fail(int code, int offset) {
            if (error == 0) {
                error = code;
                errorAt = offset;
            }
            at = length;
            kind = END;
        }

        /** Returns a number of the range in any case, so that a caller may use it as an index. */
        private int number(int least, int most) {
            if (kind != NUMBER) {
                fail(SYNTAX_ERROR, tokenStart);
                return least;
            }
            if (value < least || value > most) {
                fail(OUT_OF_RANGE, tokenStart);
                return least;
            }
            int number = value;
            advance();
            return number;
        }

        private void sign(char expected) {
            if (kind == expected) {
                advance();
            } else {
                fail(SYNTAX_ERROR, tokenStart);
            }
        }

        private boolean takeSign(char possible) {
            boolean found = kind == possible;
            if (found) {
                advance();
            }
            return found;
        }

        private boolean takeWord(String possible) {
            boolean found = isWord(possible);
            if (found) {
                advance();
            }
            return found;
        }

        private boolean isWord(String name) {
            if (kind != WORD || at - tokenStart != name.length()) {
                return false;
            }
            for (int k = 0; k < name.length(); k++) {
                if (text[tokenStart + k] != name.charAt(k)) {
                    return false;
                }
            }
            return true;
        }
    }

    /** Reads a demand expression and computes its value for one period. */
    private static final class DemandReader {
        private static final long LIMIT = 1000000;

        private int period = 0;
        private int reserved = 0;

        private long sum(InputText in, int depth) {
            long value = term(in, depth);
            for (int k = 0; k < MAX_TEXT; k++) {
                if (in.takeSign('+')) {
                    value = limited(value + term(in, depth));
                } else if (in.takeSign('-')) {
                    value = limited(value - term(in, depth));
                } else {
                    break;
                }
            }
            return value;
        }

        private long term(InputText in, int depth) {
            long value = factor(in, depth);
            for (int k = 0; k < MAX_TEXT; k++) {
                if (in.takeSign('*')) {
                    value = limited(value * factor(in, depth));
                } else if (in.takeSign('/')) {
                    value = limited(quotient(value, factor(in, depth)));
                } else {
                    break;
                }
            }
            return value;
        }

        private long factor(InputText in, int depth) {
            if (in.kind == '(' && depth >= MAX_DEPTH) {
                in.fail(TOO_DEEP, in.tokenStart);
                return 0;
            }
            if (in.takeSign('(')) {
                long value = sum(in, depth + 1);
                in.sign(')');
                return value;
            }
            if (in.takeWord("period")) {
                return period;
            }
            if (in.takeWord("season")) {
                return period % 4;
            }
            if (in.takeWord("reserved")) {
                return reserved;
            }
            return in.number(0, MAX_UNITS);
        }

        private static long quotient(long dividend, long divisor) {
            return divisor == 0 ? 0 : dividend / divisor;
        }

        private static long limited(long value) {
            return Math.max(-LIMIT, Math.min(LIMIT, value));
        }
    }

    /** Reads a setup text into a draft, so that an error leaves the contract as it is. A draft has no breaches. */
    private static final class SetupReader {
        private static final int SPOT = 1;
        private static final int LADDER = 2;
        private static final int WINDOW = 4;
        private static final int MINIMUM = 8;
        private static final int MISS = 16;
        private static final int WAIVERS = 32;
        private static final int DEMAND = 64;

        private final InputText in = new InputText();
        private final DemandReader demand = new DemandReader();
        private final Contract draft = new Contract();
        private int seen = 0;
        private int demandAt = 0;

        /** Returns the error code, 0 if there is none. */
        private int read(int length) {
            in.begin(length);
            seen = 0;
            draft.terms.clear();
            readContract();
            for (int k = 0; k < length && in.kind != InputText.END; k++) {
                readStatement();
                in.sign(';');
            }
            if (in.error == 0 && (seen & DEMAND) != 0) {
                computeForecasts();
            }
            return in.error;
        }

        private void readContract() {
            Terms terms = draft.terms;
            if (!in.takeWord("contract")) {
                in.fail(SYNTAX_ERROR, in.tokenStart);
            }
            terms.periods = in.number(2, MAX_PERIODS);
            draft.accounts.clear(in.number(0, MAX_UNITS));
            terms.unitPrice = in.number(0, MAX_PRICE);
            terms.fee = in.number(0, 99);
            in.sign(';');
        }

        private void readStatement() {
            Terms terms = draft.terms;
            if (in.takeWord("band")) {
                readBand();
            } else if (takeFirst("spot", SPOT)) {
                terms.spotLimit = in.number(0, MAX_UNITS);
                terms.spotPrice = in.number(0, MAX_PRICE);
            } else if (takeFirst("ladder", LADDER)) {
                readLadder();
            } else if (takeFirst("window", WINDOW)) {
                terms.window = in.number(0, 6);
            } else if (takeFirst("minimum", MINIMUM)) {
                terms.minimum = in.number(0, 100);
            } else if (takeFirst("miss", MISS)) {
                terms.missPrice = in.number(0, MAX_PRICE);
            } else if (takeFirst("waivers", WAIVERS)) {
                terms.waivers = in.number(0, MAX_WAIVERS);
                terms.gap = in.number(0, 40);
            } else if (takeFirst("demand", DEMAND)) {
                demandAt = in.tokenStart;
                demand.sum(in, 0);
            } else {
                in.fail(SYNTAX_ERROR, in.tokenStart);
            }
        }

        /** A second statement of the kind is not taken: it is an error at its first letter. */
        private boolean takeFirst(String name, int mark) {
            if ((seen & mark) != 0 || !in.takeWord(name)) {
                return false;
            }
            seen |= mark;
            return true;
        }

        private void readBand() {
            Terms terms = draft.terms;
            int leadAt = in.tokenStart;
            int lead = in.number(0, MAX_LEADS - 1);
            if (terms.hasBand(lead)) {
                in.fail(OUT_OF_RANGE, leadAt);
            }
            terms.addBand(lead, in.number(0, 100), in.number(0, 100));
        }

        private void readLadder() {
            readStep();
            for (int k = 0; k < MAX_STEPS && in.kind == InputText.NUMBER; k++) {
                readStep();
            }
        }

        private void readStep() {
            Terms terms = draft.terms;
            int step = terms.steps;
            int percentAt = in.tokenStart;
            int percent = in.number(step == 0 ? 0 : terms.stepPercent[step - 1] + 1, MAX_STEP_PERCENT);
            if (step >= MAX_STEPS) {
                in.fail(TOO_MANY, percentAt);
                return;
            }
            terms.stepPercent[step] = percent;
            terms.stepPrice[step] = in.number(0, MAX_PRICE);
            terms.steps++;
        }

        /** The expression has no error any more: it is read anew for each period. */
        private void computeForecasts() {
            Accounts accounts = draft.accounts;
            for (int p = 0; p < draft.terms.periods; p++) {
                in.goTo(demandAt);
                demand.period = p;
                demand.reserved = accounts.reserved[p];
                long value = demand.sum(in, 0);
                accounts.forecast[p] = (int) Math.max(0, Math.min(MAX_UNITS, value));
            }
        }
    }
}

import java.util.ArrayDeque;
import java.util.ArrayList;
import java.util.Deque;
import java.util.List;
import java.util.TreeMap;
import java.util.function.IntUnaryOperator;

/**
 * A second writing of the document, on purpose in another manner than SupplyContract: tokens first, expressions as
 * functions, lists and maps, a full copy for each change. ModelTest compares the two.
 */
final class Model {
    /** An error of the setup text. */
    private static final class TextError extends RuntimeException {
        private static final long serialVersionUID = 1L;
        final int code;
        final int offset;

        TextError(int code, int offset) {
            this.code = code;
            this.offset = offset;
        }
    }

    private record Token(String text, int offset) {
        boolean isNumber() {
            return !text.isEmpty() && text.chars().allMatch(c -> c >= '0' && c <= '9');
        }
    }

    private record Band(int low, int high) {
    }

    private record Breach(int period, int kind, int penalty, boolean waived) {
    }

    private static final class Period {
        int reserved;
        int forecast;
        int order = -1;
        int open;
        int missed;
        long invoice;

        Period copy() {
            Period p = new Period();
            p.reserved = reserved;
            p.forecast = forecast;
            p.order = order;
            p.open = open;
            p.missed = missed;
            p.invoice = invoice;
            return p;
        }
    }

    private static final class State {
        int clock;
        int price;
        int fee;
        int spotLimit;
        int spotPrice;
        int window;
        int minimum;
        int miss;
        int waivers;
        int gap;
        int uncounted;
        TreeMap<Integer, Band> bands = new TreeMap<>();
        TreeMap<Integer, Integer> ladder = new TreeMap<>();
        List<Period> periods = new ArrayList<>();
        List<Breach> breaches = new ArrayList<>();

        State copy() {
            State s = new State();
            s.clock = clock;
            s.price = price;
            s.fee = fee;
            s.spotLimit = spotLimit;
            s.spotPrice = spotPrice;
            s.window = window;
            s.minimum = minimum;
            s.miss = miss;
            s.waivers = waivers;
            s.gap = gap;
            s.uncounted = uncounted;
            s.bands = new TreeMap<>(bands);
            s.ladder = new TreeMap<>(ladder);
            for (Period p : periods) {
                s.periods.add(p.copy());
            }
            s.breaches = new ArrayList<>(breaches);
            return s;
        }
    }

    private final StringBuilder buffer = new StringBuilder();
    private int offset = -1;
    private State state = new State();
    private final Deque<State> past = new ArrayDeque<>();

    // ---- the setup text

    private List<Token> tokens;
    private int next;

    private static List<Token> cut(String text) {
        List<Token> list = new ArrayList<>();
        int k = 0;
        while (k < text.length()) {
            int from = k;
            char c = text.charAt(k);
            if (c == ' ') {
                k++;
                continue;
            }
            if (c >= '0' && c <= '9') {
                while (k < text.length() && text.charAt(k) >= '0' && text.charAt(k) <= '9') {
                    k++;
                }
            } else if (c >= 'a' && c <= 'z') {
                while (k < text.length() && text.charAt(k) >= 'a' && text.charAt(k) <= 'z') {
                    k++;
                }
            } else {
                k++;
            }
            list.add(new Token(text.substring(from, k), from));
        }
        list.add(new Token("", text.length()));
        return list;
    }

    private Token peek() {
        return tokens.get(next);
    }

    private void expect(String text) {
        if (!peek().text().equals(text)) {
            throw new TextError(-2, peek().offset());
        }
        next++;
    }

    private int number(int least, int most) {
        Token t = peek();
        if (!t.isNumber()) {
            throw new TextError(-2, t.offset());
        }
        next++;
        java.math.BigInteger value = new java.math.BigInteger(t.text());
        if (value.compareTo(java.math.BigInteger.valueOf(least)) < 0
                || value.compareTo(java.math.BigInteger.valueOf(most)) > 0) {
            throw new TextError(-3, t.offset());
        }
        return value.intValue();
    }

    private static int limit(long value) {
        return (int) (value > 1000000 ? 1000000 : value < -1000000 ? -1000000 : value);
    }

    private IntUnaryOperator sum(int reserved, int depth) {
        IntUnaryOperator left = term(reserved, depth);
        while (peek().text().equals("+") || peek().text().equals("-")) {
            boolean plus = peek().text().equals("+");
            next++;
            IntUnaryOperator a = left;
            IntUnaryOperator b = term(reserved, depth);
            left = p -> limit(plus ? (long) a.applyAsInt(p) + b.applyAsInt(p) : (long) a.applyAsInt(p) - b.applyAsInt(p));
        }
        return left;
    }

    private IntUnaryOperator term(int reserved, int depth) {
        IntUnaryOperator left = factor(reserved, depth);
        while (peek().text().equals("*") || peek().text().equals("/")) {
            boolean times = peek().text().equals("*");
            next++;
            IntUnaryOperator a = left;
            IntUnaryOperator b = factor(reserved, depth);
            left = p -> {
                long x = a.applyAsInt(p);
                long y = b.applyAsInt(p);
                return times ? limit(x * y) : y == 0 ? 0 : limit(x / y);
            };
        }
        return left;
    }

    private IntUnaryOperator factor(int reserved, int depth) {
        Token t = peek();
        if (t.isNumber()) {
            int value = number(0, 9999);
            return p -> value;
        }
        next++;
        switch (t.text()) {
            case "period":
                return p -> p;
            case "season":
                return p -> p % 4;
            case "reserved":
                return p -> reserved;
            case "(":
                if (depth == 4) {
                    throw new TextError(-5, t.offset());
                }
                IntUnaryOperator inner = sum(reserved, depth + 1);
                expect(")");
                return inner;
            default:
                throw new TextError(-2, t.offset());
        }
    }

    private State parse(String text) {
        tokens = cut(text);
        next = 0;
        State s = new State();
        expect("contract");
        int n = number(2, 40);
        int reserved = number(0, 9999);
        s.price = number(0, 999);
        s.fee = number(0, 99);
        expect(";");
        for (int p = 0; p < n; p++) {
            Period period = new Period();
            period.reserved = reserved;
            period.forecast = reserved;
            s.periods.add(period);
        }
        List<String> seen = new ArrayList<>();
        while (!peek().text().isEmpty()) {
            Token word = peek();
            if (seen.contains(word.text()) && !word.text().equals("band")) {
                throw new TextError(-2, word.offset());
            }
            seen.add(word.text());
            next++;
            statement(s, word, reserved);
            expect(";");
        }
        return s;
    }

    private void statement(State s, Token word, int reserved) {
        switch (word.text()) {
            case "spot" -> {
                s.spotLimit = number(0, 9999);
                s.spotPrice = number(0, 999);
            }
            case "band" -> {
                int at = peek().offset();
                int lead = number(0, 39);
                if (s.bands.containsKey(lead)) {
                    throw new TextError(-3, at);
                }
                int low = number(0, 100);
                s.bands.put(lead, new Band(low, number(0, 100)));
            }
            case "ladder" -> {
                do {
                    int at = peek().offset();
                    int percent = number(s.ladder.isEmpty() ? 0 : s.ladder.lastKey() + 1, 999);
                    if (s.ladder.size() == 6) {
                        throw new TextError(-4, at);
                    }
                    s.ladder.put(percent, number(0, 999));
                } while (peek().isNumber());
            }
            case "window" -> s.window = number(0, 6);
            case "minimum" -> s.minimum = number(0, 100);
            case "miss" -> s.miss = number(0, 999);
            case "waivers" -> {
                s.waivers = number(0, 4);
                s.gap = number(0, 40);
            }
            case "demand" -> {
                IntUnaryOperator demand = sum(reserved, 0);
                for (int p = 0; p < s.periods.size(); p++) {
                    int value = demand.applyAsInt(p);
                    s.periods.get(p).forecast = value < 0 ? 0 : value > 9999 ? 9999 : value;
                }
            }
            default -> throw new TextError(-2, word.offset());
        }
    }

    // ---- the face

    int append(int... words) {
        if (buffer.length() + 20 > 800) {
            return -1;
        }
        for (int w : words) {
            buffer.append((char) (w >>> 24)).append((char) (w >>> 16 & 255));
            buffer.append((char) (w >>> 8 & 255)).append((char) (w & 255));
        }
        return buffer.length();
    }

    int load(int length) {
        if (length < 0 || length > buffer.length()) {
            throw new IllegalArgumentException();
        }
        String text = buffer.substring(0, length);
        buffer.setLength(0);
        offset = -1;
        try {
            State s = parse(text);
            change();
            state = s;
            return s.periods.size();
        } catch (TextError e) {
            offset = e.offset;
            return e.code;
        }
    }

    private void change() {
        past.push(state.copy());
        if (past.size() > 8) {
            past.removeLast();
        }
    }

    int errorOffset() {
        return offset;
    }

    int periodCount() {
        return state.periods.size();
    }

    int clock() {
        return state.clock;
    }

    private Period period(int p) {
        if (p < 0 || p >= periodCount()) {
            throw new IndexOutOfBoundsException();
        }
        return state.periods.get(p);
    }

    int reservedIn(int p) {
        return period(p).reserved;
    }

    int forecastOf(int p) {
        return period(p).forecast;
    }

    int orderOf(int p) {
        return period(p).order;
    }

    int openUnits(int p) {
        return period(p).open;
    }

    int missedUnits(int p) {
        return period(p).missed;
    }

    long invoice(int p) {
        return period(p).invoice;
    }

    long balance() {
        return state.periods.stream().mapToLong(p -> p.invoice).sum()
                + state.breaches.stream().filter(b -> !b.waived()).mapToLong(Breach::penalty).sum();
    }

    private static void range(int value, int most) {
        if (value < 0 || value > most) {
            throw new IllegalArgumentException();
        }
    }

    int bandFor(int lead) {
        range(lead, 39);
        Integer key = state.bands.floorKey(lead);
        return key == null ? -1 : key;
    }

    int allowed(int lead, int forecast, boolean upper) {
        range(forecast, 9999);
        int band = bandFor(lead);
        if (band < 0) {
            return upper ? 9999 : 0;
        }
        Band b = state.bands.get(band);
        return upper ? forecast + forecast * b.high() / 100 : forecast - forecast * b.low() / 100;
    }

    int penaltyFor(int excess, int forecast) {
        range(excess, 9999);
        range(forecast, 9999);
        int c = forecast == 0 ? excess * 100 : excess * 100 / forecast;
        var step = state.ladder.floorEntry(c);
        return step == null ? 0 : excess * step.getValue();
    }

    int breachCount() {
        return state.breaches.size();
    }

    int allBreaches() {
        return state.breaches.size() + state.uncounted;
    }

    private Breach breach(int b) {
        if (b < 0 || b >= state.breaches.size()) {
            throw new IndexOutOfBoundsException();
        }
        return state.breaches.get(b);
    }

    int breachPeriod(int b) {
        return breach(b).period();
    }

    int breachKind(int b) {
        return breach(b).kind();
    }

    int breachPenalty(int b) {
        return breach(b).penalty();
    }

    boolean isWaived(int b) {
        return breach(b).waived();
    }

    int waiversLeft() {
        return state.waivers - (int) state.breaches.stream().filter(Breach::waived).count();
    }

    /** All sets of at most 4 breaches; of equally good ones the lexicographically smallest. */
    private List<Integer> bestSet() {
        List<List<Integer>> sets = new ArrayList<>();
        sets.add(List.of());
        for (int from = 0, size = 0; size < waiversLeft(); size++) {
            int end = sets.size();
            for (; from < end; from++) {
                List<Integer> set = sets.get(from);
                int first = set.isEmpty() ? 0 : set.get(set.size() - 1) + 1;
                for (int b = first; b < breachCount(); b++) {
                    List<Integer> more = new ArrayList<>(set);
                    more.add(b);
                    if (possible(more)) {
                        sets.add(more);
                    }
                }
            }
        }
        List<Integer> best = List.of();
        for (List<Integer> set : sets) {
            int difference = worth(set) - worth(best);
            if (difference > 0 || difference == 0 && before(set, best)) {
                best = set;
            }
        }
        return best;
    }

    private static boolean before(List<Integer> a, List<Integer> b) {
        for (int k = 0; k < a.size() && k < b.size(); k++) {
            if (!a.get(k).equals(b.get(k))) {
                return a.get(k) < b.get(k);
            }
        }
        return a.size() < b.size();
    }

    private int worth(List<Integer> set) {
        return set.stream().mapToInt(this::breachPenalty).sum();
    }

    private boolean possible(List<Integer> set) {
        State saved = state;
        state = state.copy();
        try {
            for (int b : set) {
                if (breachPenalty(b) == 0 || !waivable(b)) {
                    return false;
                }
                markWaived(b);
            }
            return true;
        } finally {
            state = saved;
        }
    }

    private void markWaived(int b) {
        Breach old = state.breaches.get(b);
        state.breaches.set(b, new Breach(old.period(), old.kind(), old.penalty(), true));
    }

    private boolean waivable(int b) {
        return !isWaived(b) && waiversLeft() > 0 && state.breaches.stream().filter(Breach::waived)
                .allMatch(w -> Math.abs(w.period() - breachPeriod(b)) >= state.gap);
    }

    int bestWaiving() {
        return worth(bestSet());
    }

    int bestWaiver(int k) {
        if (k < 0) {
            throw new IllegalArgumentException();
        }
        List<Integer> set = bestSet();
        return k < set.size() ? set.get(k) : -1;
    }

    long projected() {
        State saved = state;
        state = state.copy();
        long costs = 0;
        while (state.clock < periodCount()) {
            int p = state.clock;
            closeSteps();
            costs += invoice(p);
        }
        state = saved;
        return costs;
    }

    int bestReserved(int limit) {
        range(limit, 500);
        if (state.clock + 1 >= periodCount()) {
            throw new IllegalStateException();
        }
        State saved = state;
        int best = 0;
        long least = Long.MAX_VALUE;
        for (int level = 0; level <= limit; level++) {
            state = saved.copy();
            for (int p = state.clock + 1; p < periodCount(); p++) {
                state.periods.get(p).reserved = level;
            }
            long costs = projected();
            if (costs < least) {
                least = costs;
                best = level;
            }
        }
        state = saved;
        return best;
    }

    private int breachOf(int period, int kind, int lead, int quantity) {
        int forecast = forecastOf(period);
        int excess = 0;
        if (quantity < allowed(lead, forecast, false)) {
            excess = allowed(lead, forecast, false) - quantity;
        }
        if (quantity > allowed(lead, forecast, true)) {
            excess = quantity - allowed(lead, forecast, true);
        }
        if (excess == 0) {
            return 0;
        }
        if (breachCount() == 20) {
            state.uncounted++;
            return 0;
        }
        int penalty = penaltyFor(excess, forecast);
        state.breaches.add(new Breach(period, kind, penalty, false));
        return penalty;
    }

    int forecast(int p, int quantity) {
        period(p);
        range(quantity, 9999);
        if (p <= state.clock) {
            throw new IllegalStateException();
        }
        change();
        int penalty = breachOf(p, 1, p - state.clock, quantity);
        period(p).forecast = quantity;
        return penalty;
    }

    private void running() {
        if (state.clock >= periodCount()) {
            throw new IllegalStateException();
        }
    }

    int order(int quantity) {
        range(quantity, 9999);
        running();
        if (orderOf(state.clock) != -1) {
            throw new IllegalStateException();
        }
        change();
        place(quantity);
        return breachOf(state.clock, 2, 0, quantity);
    }

    private void place(int quantity) {
        period(state.clock).order = quantity;
        period(state.clock).open = quantity;
    }

    long close() {
        running();
        change();
        int p = state.clock;
        closeSteps();
        return invoice(p);
    }

    private void closeSteps() {
        Period current = period(state.clock);
        if (current.order == -1) {
            place(current.forecast);
        }
        int delivered = 0;
        for (int p = state.clock - state.window; p <= state.clock; p++) {
            if (p >= 0) {
                int units = Math.min(period(p).open, current.reserved - delivered);
                period(p).open -= units;
                delivered += units;
            }
        }
        int spot = 0;
        int missed = 0;
        if (state.clock - state.window >= 0) {
            Period due = period(state.clock - state.window);
            spot = Math.min(due.open, state.spotLimit);
            missed = due.open - spot;
            due.open = 0;
            due.missed += missed;
        }
        int least = current.reserved * state.minimum / 100;
        int shortfall = current.order < least ? least - current.order : 0;
        current.invoice = (long) state.fee * current.reserved + (long) state.price * delivered
                + (long) state.spotPrice * spot + (long) state.price * shortfall - (long) state.miss * missed;
        state.clock++;
        if (state.clock == periodCount()) {
            for (Period p : state.periods) {
                current.invoice -= (long) state.miss * p.open;
                p.missed += p.open;
                p.open = 0;
            }
        }
    }

    int reserve(int from, int reserved) {
        period(from);
        range(reserved, 9999);
        if (from <= state.clock) {
            throw new IllegalStateException();
        }
        change();
        int changed = 0;
        for (Period p : state.periods.subList(from, periodCount())) {
            changed += p.reserved == reserved ? 0 : 1;
            p.reserved = reserved;
        }
        return changed;
    }

    int waive(int b) {
        breach(b);
        if (!waivable(b)) {
            throw new IllegalStateException();
        }
        change();
        markWaived(b);
        return breachPenalty(b);
    }

    int undo() {
        if (past.isEmpty()) {
            return -1;
        }
        state = past.pop();
        return past.size();
    }

    long checksum() {
        List<Long> numbers = new ArrayList<>(List.of((long) clock(), balance(), (long) allBreaches()));
        for (Period p : state.periods) {
            for (int n : new int[] {p.reserved, p.forecast, p.order, p.open, p.missed}) {
                numbers.add((long) n);
            }
        }
        for (Breach b : state.breaches) {
            numbers.add(b.waived() ? -1L : b.penalty());
        }
        return numbers.stream().reduce(0L, (sum, n) -> 31 * sum + n);
    }
}

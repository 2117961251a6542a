import java.util.Random;
import java.util.function.LongSupplier;

/** Random runs of at most 512 calls, the same on SupplyContract and on Model; the seeds are fixed. */
public final class ModelTest {
    private static final int RUNS = 1500;
    private static final int CALLS = 512;
    private static final String SIGNS = ";;  +-*/()0123456789abcdepsxyz:A\t\u0000\u0080\u00ff";

    private final Random random;
    private final int run;
    private final SupplyContract x = new SupplyContract();
    private final Model m = new Model();
    private int calls = 0;

    private ModelTest(int run) {
        this.run = run;
        random = new Random(20261118L + run);
    }

    public static void main(String[] args) {
        for (int run = 0; run < RUNS; run++) {
            new ModelTest(run).play();
        }
        Checks.end("ModelTest");
    }

    private void play() {
        int loads = run % 3 == 0 ? 3 : 60;
        while (calls < CALLS - 100) {
            if (calls == 0 || random.nextInt(loads) == 0) {
                load();
            } else if (random.nextInt(40) == 0) {
                undoSome();
            } else {
                call();
            }
        }
    }

    private void same(String what, LongSupplier got, LongSupplier want) {
        calls++;
        Checks.dueText("run " + run + ", call " + calls + ", " + what, Checks.answer(got), Checks.answer(want));
    }

    private void load() {
        String text = text();
        for (int from = 0; from < text.length(); from += 20) {
            int[] w = new int[5];
            for (int k = 0; k < 5; k++) {
                w[k] = Checks.word(text, from + 4 * k);
            }
            same("append", () -> x.append(w[0], w[1], w[2], w[3], w[4]), () -> m.append(w));
        }
        int length = random.nextInt(20) == 0 ? random.nextInt(text.length() + 30) - 5 : text.length();
        same("load of " + text, () -> x.load(length), () -> m.load(length));
        same("errorOffset of " + text, () -> x.errorOffset(), () -> m.errorOffset());
        same("checksum after " + text, () -> x.checksum(), () -> m.checksum());
    }

    private void undoSome() {
        for (int k = random.nextInt(10); k >= 0; k--) {
            same("undo", () -> x.undo(), () -> m.undo());
        }
        same("checksum", () -> x.checksum(), () -> m.checksum());
        same("projected", () -> x.projected(), () -> m.projected());
        for (int k = 0; k < m.breachCount(); k++) {
            int b = k;
            same("breachPeriod " + b, () -> x.breachPeriod(b), () -> m.breachPeriod(b));
            same("breachKind " + b, () -> x.breachKind(b), () -> m.breachKind(b));
            same("breachPenalty " + b, () -> x.breachPenalty(b), () -> m.breachPenalty(b));
        }
    }

    private int upTo(int most) {
        return random.nextInt(12) == 0 ? most : random.nextInt(most + 1);
    }

    private String text() {
        int scale = random.nextInt(3) == 0 ? 9999 : random.nextInt(2) == 0 ? 300 : 30;
        StringBuilder s = new StringBuilder("contract " + (2 + upTo(random.nextBoolean() ? 6 : 38)) + " " + upTo(scale)
                + " " + upTo(random.nextBoolean() ? 9 : 999) + " " + upTo(random.nextBoolean() ? 5 : 99) + ";");
        String[] statements = {"spot " + upTo(scale) + " " + upTo(random.nextBoolean() ? 20 : 999) + ";", bands(),
            ladder(), "window " + upTo(6) + ";", "minimum " + upTo(100) + ";", "miss " + upTo(999) + ";",
            "waivers " + upTo(4) + " " + upTo(random.nextBoolean() ? 4 : 40) + ";", "demand " + sum(0) + ";"};
        int start = random.nextInt(statements.length);
        for (int k = 0; k < statements.length; k++) {
            if (random.nextInt(5) > 0) {
                s.append(statements[(start + k) % statements.length]);
            }
        }
        if (random.nextInt(3) == 0) {
            spoil(s);
        }
        return s.substring(0, Math.min(800, s.length()));
    }

    private String bands() {
        StringBuilder s = new StringBuilder();
        for (int k = random.nextInt(4); k > 0; k--) {
            s.append("band ").append(upTo(random.nextBoolean() ? 4 : 39)).append(' ').append(upTo(random.nextBoolean() ? 5 : 100))
                .append(' ').append(upTo(random.nextBoolean() ? 5 : 100)).append(';');
        }
        return s.toString();
    }

    private String ladder() {
        StringBuilder s = new StringBuilder("ladder");
        int percent = random.nextInt(10);
        for (int k = 1 + random.nextInt(random.nextInt(5) == 0 ? 8 : 6); k > 0; k--) {
            s.append(' ').append(percent).append(' ').append(upTo(random.nextBoolean() ? 3 : 999));
            percent += random.nextInt(30) == 0 ? 0 : 1 + random.nextInt(150);
        }
        return s.append(';').toString();
    }

    private String sum(int depth) {
        StringBuilder s = new StringBuilder(term(depth));
        for (int k = random.nextInt(3); k > 0; k--) {
            s.append(random.nextBoolean() ? "+" : "-").append(term(depth));
        }
        return s.toString();
    }

    private String term(int depth) {
        StringBuilder s = new StringBuilder(factor(depth));
        for (int k = random.nextInt(3); k > 0; k--) {
            s.append(random.nextBoolean() ? "*" : "/").append(factor(depth));
        }
        return s.toString();
    }

    private String factor(int depth) {
        switch (random.nextInt(depth < 3 ? 7 : depth < 5 ? 9 : 6)) {
            case 0:
                return "period";
            case 1:
                return " season ";
            case 2:
                return "reserved";
            case 3:
                return Integer.toString(upTo(9999));
            case 4:
            case 5:
                return Integer.toString(upTo(20));
            default:
                return depth < 5 && random.nextInt(2 + depth) < 2 ? "(" + sum(depth + 1) + ")" : "7";
        }
    }

    private void spoil(StringBuilder s) {
        for (int k = 1 + random.nextInt(2); k > 0 && s.length() > 1; k--) {
            int at = random.nextInt(s.length());
            char sign = SIGNS.charAt(random.nextInt(SIGNS.length()));
            switch (random.nextInt(5)) {
                case 0 -> s.deleteCharAt(at);
                case 1 -> s.insert(at, sign);
                case 2 -> s.setCharAt(at, sign);
                case 3 -> s.setLength(at);
                default -> s.insert(at, "   ");
            }
        }
    }

    private int quantity() {
        switch (random.nextInt(10)) {
            case 0:
                return random.nextInt(10100) - 50;
            case 1:
                return random.nextInt(400);
            default:
                int p = periodInside();
                int forecast = p < 0 ? 5 : m.forecastOf(p);
                return Math.max(0, forecast + random.nextInt(2 + forecast / 4) - random.nextInt(2 + forecast / 4));
        }
    }

    private int periodInside() {
        return m.periodCount() == 0 ? -1 : random.nextInt(m.periodCount());
    }

    private int period() {
        return random.nextInt(10) == 0 ? random.nextInt(60) - 10 : random.nextInt(Math.max(1, m.periodCount()));
    }

    private int laterPeriod() {
        int later = m.periodCount() - m.clock() - 1;
        return later < 1 || random.nextInt(10) == 0 ? period() : m.clock() + 1 + random.nextInt(later);
    }

    private int breach() {
        return random.nextInt(8) == 0 ? random.nextInt(30) - 4 : random.nextInt(Math.max(1, m.breachCount()));
    }

    private void call() {
        int kind = random.nextInt(100);
        if (kind < 45) {
            change(kind);
            same("checksum", () -> x.checksum(), () -> m.checksum());
        } else if (kind < 70) {
            askPeriod(kind % 8);
        } else {
            askBreach(kind % 17);
        }
    }

    private void change(int kind) {
        int p = laterPeriod();
        int q = quantity();
        int b = breach();
        if (kind < 16) {
            same("forecast " + p + " " + q, () -> x.forecast(p, q), () -> m.forecast(p, q));
        } else if (kind < 22) {
            same("order " + q, () -> x.order(q), () -> m.order(q));
        } else if (kind < 28) {
            same("close", () -> x.close(), () -> m.close());
        } else if (kind < 33) {
            same("reserve " + p + " " + q, () -> x.reserve(p, q), () -> m.reserve(p, q));
        } else if (kind < 39) {
            same("waive " + b, () -> x.waive(b), () -> m.waive(b));
        } else {
            same("undo", () -> x.undo(), () -> m.undo());
        }
    }

    private void askPeriod(int kind) {
        int p = period();
        switch (kind) {
            case 0 -> same("reservedIn " + p, () -> x.reservedIn(p), () -> m.reservedIn(p));
            case 1 -> same("forecastOf " + p, () -> x.forecastOf(p), () -> m.forecastOf(p));
            case 2 -> same("orderOf " + p, () -> x.orderOf(p), () -> m.orderOf(p));
            case 3 -> same("openUnits " + p, () -> x.openUnits(p), () -> m.openUnits(p));
            case 4 -> same("missedUnits " + p, () -> x.missedUnits(p), () -> m.missedUnits(p));
            case 5 -> same("invoice " + p, () -> x.invoice(p), () -> m.invoice(p));
            case 6 -> same("projected", () -> x.projected(), () -> m.projected());
            default -> {
                int limit = random.nextInt(10) == 0 ? random.nextInt(600) - 50 : random.nextInt(40);
                same("bestReserved " + limit, () -> x.bestReserved(limit), () -> m.bestReserved(limit));
            }
        }
    }

    private void askBreach(int kind) {
        int b = breach();
        int lead = random.nextInt(45) - 2;
        int units = random.nextInt(3) == 0 ? random.nextInt(10200) - 100 : random.nextInt(300);
        int excess = random.nextInt(3) == 0 ? random.nextInt(10200) - 100 : random.nextInt(300);
        boolean upper = random.nextBoolean();
        int k = random.nextInt(6) - 1;
        switch (kind) {
            case 0 -> same("bandFor " + lead, () -> x.bandFor(lead), () -> m.bandFor(lead));
            case 1, 2 -> same("allowed " + lead + " " + units, () -> x.allowed(lead, units, upper),
                () -> m.allowed(lead, units, upper));
            case 3, 4 -> same("penaltyFor " + excess + " " + units, () -> x.penaltyFor(excess, units),
                () -> m.penaltyFor(excess, units));
            case 5 -> same("breachCount", () -> x.breachCount(), () -> m.breachCount());
            case 6 -> same("allBreaches", () -> x.allBreaches(), () -> m.allBreaches());
            case 7 -> same("breachPeriod " + b, () -> x.breachPeriod(b), () -> m.breachPeriod(b));
            case 8 -> same("breachKind " + b, () -> x.breachKind(b), () -> m.breachKind(b));
            case 9 -> same("breachPenalty " + b, () -> x.breachPenalty(b), () -> m.breachPenalty(b));
            case 10 -> same("isWaived " + b, () -> Checks.bit(() -> x.isWaived(b)), () -> Checks.bit(() -> m.isWaived(b)));
            case 11 -> same("waiversLeft", () -> x.waiversLeft(), () -> m.waiversLeft());
            case 12 -> same("bestWaiving", () -> x.bestWaiving(), () -> m.bestWaiving());
            case 13 -> same("bestWaiver " + k, () -> x.bestWaiver(k), () -> m.bestWaiver(k));
            case 14 -> same("balance", () -> x.balance(), () -> m.balance());
            case 15 -> same("periodCount", () -> x.periodCount(), () -> m.periodCount());
            default -> same("clock", () -> x.clock(), () -> m.clock());
        }
    }
}

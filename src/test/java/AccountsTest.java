/** Promises 5 to 13, 29 and 30: the periods, their quantities, and the steps in which a period is closed. */
public final class AccountsTest {
    public static void main(String[] args) {
        wrongPeriods();
        plainClosing();
        window();
        earliestFirst();
        spot();
        spotOnlyForTheDueOrder();
        minimum();
        endOfTheContract();
        negativeInvoice();
        greatNumbers();
        orders();
        balance();
        Checks.end("AccountsTest");
    }

    private static void wrongPeriods() {
        SupplyContract x = Checks.contract("contract 3 10 2 1;");
        for (int period : new int[] {-1, 3, 40, Integer.MIN_VALUE, Integer.MAX_VALUE}) {
            Checks.throwsIndex("reservedIn " + period, () -> x.reservedIn(period));
            Checks.throwsIndex("forecastOf " + period, () -> x.forecastOf(period));
            Checks.throwsIndex("orderOf " + period, () -> x.orderOf(period));
            Checks.throwsIndex("openUnits " + period, () -> x.openUnits(period));
            Checks.throwsIndex("missedUnits " + period, () -> x.missedUnits(period));
            Checks.throwsIndex("invoice " + period, () -> x.invoice(period));
        }
        Checks.throwsIndex("no contract", () -> new SupplyContract().reservedIn(0));
        Checks.throwsIndex("no contract", () -> new SupplyContract().invoice(0));
    }

    private static void plainClosing() {
        SupplyContract x = Checks.contract("contract 3 10 5 2;demand 4+period;");
        Checks.due("close", x.close(), 2 * 10 + 5 * 4);
        Checks.due("clock", x.clock(), 1);
        Checks.due("the order is the forecast", x.orderOf(0), 4);
        Checks.due("open", x.openUnits(0), 0);
        Checks.due("missed", x.missedUnits(0), 0);
        Checks.due("invoice", x.invoice(0), 40);
        Checks.due("the next invoice", x.invoice(1), 0);
        Checks.due("no breach", x.allBreaches(), 0);
        Checks.due("close", x.close(), 45);
        Checks.due("close", x.close(), 50);
        Checks.due("clock at the end", x.clock(), 3);
        Checks.due("periods at the end", x.periodCount(), 3);
        Checks.throwsState("close after the end", () -> x.close());
        Checks.throwsState("order after the end", () -> x.order(1));
        Checks.throwsState("close without a contract", () -> new SupplyContract().close());
    }

    private static void window() {
        SupplyContract x = Checks.contract("contract 4 10 5 0;window 2;miss 3;demand 0;");
        x.order(35);
        Checks.due("close 0", x.close(), 50);
        Checks.due("open after 0", x.openUnits(0), 25);
        Checks.due("missed after 0", x.missedUnits(0), 0);
        Checks.due("close 1", x.close(), 50);
        Checks.due("open after 1", x.openUnits(0), 15);
        Checks.due("close 2", x.close(), 50 - 5 * 3);
        Checks.due("open after 2", x.openUnits(0), 0);
        Checks.due("missed after 2", x.missedUnits(0), 5);
        Checks.due("close 3", x.close(), 0);
        Checks.due("missed units are missed once", x.missedUnits(0), 5);
    }

    private static void earliestFirst() {
        SupplyContract x = Checks.contract("contract 5 10 1 0;window 3;demand 0;");
        x.order(18);
        x.close();
        x.order(7);
        Checks.due("close 1", x.close(), 10);
        Checks.due("the earliest one first", x.openUnits(0), 0);
        Checks.due("then the next one", x.openUnits(1), 5);
        x.order(9);
        x.close();
        Checks.due("open 1", x.openUnits(1), 0);
        Checks.due("open 2", x.openUnits(2), 4);
    }

    private static void spot() {
        SupplyContract x = Checks.contract("contract 3 10 2 1;spot 6 9;miss 4;demand 0;");
        x.order(13);
        Checks.due("a part of the limit", x.close(), 10 + 20 + 27);
        x.order(16);
        Checks.due("the whole limit", x.close(), 10 + 20 + 54);
        Checks.due("nothing missed", x.missedUnits(1), 0);
        x.order(17);
        Checks.due("beyond the limit", x.close(), 10 + 20 + 54 - 4);
        Checks.due("one missed", x.missedUnits(2), 1);
        Checks.due("none open", x.openUnits(2), 0);
    }

    private static void spotOnlyForTheDueOrder() {
        SupplyContract x = Checks.contract("contract 4 10 2 0;spot 100 9;window 1;demand 0;");
        x.order(30);
        Checks.due("not yet from the spot market", x.close(), 20);
        x.order(30);
        Checks.due("the order of the period before", x.close(), 20 + 90);
        Checks.due("open 0", x.openUnits(0), 0);
        Checks.due("open 1", x.openUnits(1), 30);
        Checks.due("close 2", x.close(), 20 + 180);
        x.order(15);
        Checks.due("the end: no spot market for the last order", x.close(), 20);
        Checks.due("missed", x.missedUnits(3), 5);
    }

    private static void minimum() {
        SupplyContract x = Checks.contract("contract 4 15 4 0;minimum 50;demand 0;");
        x.order(7);
        Checks.due("the minimum rounds down", x.close(), 28);
        x.order(6);
        Checks.due("a shortfall of 1", x.close(), 24 + 4);
        x.order(9);
        Checks.due("no shortfall", x.close(), 36);
        Checks.due("everything is shortfall", x.close(), 28);

        SupplyContract y = Checks.contract("contract 2 10 3 0;minimum 100;window 1;demand 0;");
        y.order(20);
        y.close();
        Checks.due("the shortfall counts the order, not the deliveries", y.close(), 30 + 30);
    }

    private static void endOfTheContract() {
        SupplyContract x = Checks.contract("contract 3 10 1 0;window 6;miss 2;spot 50 1;demand 20;");
        Checks.due("close 0", x.close(), 10);
        Checks.due("close 1", x.close(), 10);
        Checks.due("no due order: nothing missed", x.missedUnits(0), 0);
        Checks.due("close 2", x.close(), 10 - 2 * 30);
        Checks.due("the last invoice", x.invoice(2), -50);
        Checks.due("missed 0", x.missedUnits(0), 0);
        Checks.due("missed 1", x.missedUnits(1), 10);
        Checks.due("missed 2", x.missedUnits(2), 20);
        Checks.due("open 1", x.openUnits(1), 0);
        Checks.due("open 2", x.openUnits(2), 0);

        SupplyContract y = Checks.contract("contract 2 0 1 0;window 2;miss 3;spot 50 1;demand 5+period;");
        Checks.due("nothing delivered", y.close(), 0);
        Checks.due("all missed", y.close(), -33);
        Checks.due("missed 0", y.missedUnits(0), 5);
        Checks.due("missed 1", y.missedUnits(1), 6);
    }

    private static void negativeInvoice() {
        SupplyContract x = Checks.contract("contract 2 0 1 0;miss 7;demand 3;");
        Checks.due("close", x.close(), -21);
        Checks.due("balance", x.balance(), -21);
        Checks.due("the due order and the end", x.close(), -21);
        Checks.due("balance", x.balance(), -42);
    }

    private static void greatNumbers() {
        SupplyContract x = Checks.contract("contract 40 9999 999 99;spot 9999 999;window 0;minimum 100;miss 999;");
        long sum = 0;
        for (int p = 0; p < 40; p++) {
            sum += x.close();
        }
        Checks.due("sum", sum, 40L * 9999 * (999 + 99));
        Checks.due("balance", x.balance(), sum);
    }

    private static void orders() {
        SupplyContract x = Checks.contract("contract 3 10 1 0;");
        Checks.due("no order", x.orderOf(0), -1);
        Checks.throwsArgument("negative", () -> x.order(-1));
        Checks.throwsArgument("too great", () -> x.order(10000));
        Checks.due("order", x.order(9999), 0);
        Checks.due("order", x.orderOf(0), 9999);
        Checks.due("open", x.openUnits(0), 9999);
        Checks.throwsState("placed already", () -> x.order(5));
        Checks.throwsArgument("the quantity is looked at first", () -> x.order(-1));
        x.close();
        Checks.due("an order of 0", x.order(0), 0);
        Checks.due("order 0 stands", x.orderOf(1), 0);
        Checks.throwsState("an order of 0 is an order", () -> x.order(5));
        Checks.due("close", x.close(), 0);
        Checks.throwsArgument("no contract: the quantity first", () -> new SupplyContract().order(-1));
        Checks.throwsState("no contract", () -> new SupplyContract().order(0));
    }

    private static void balance() {
        SupplyContract x = Checks.contract("contract 4 10 2 1;band 0 0 0;ladder 0 5;waivers 1 0;");
        x.order(14);
        Checks.due("a penalty", x.balance(), 20);
        x.close();
        Checks.due("an invoice and a penalty", x.balance(), 30 + 20);
        x.forecast(2, 7);
        Checks.due("two penalties", x.balance(), 30 + 20 + 15);
        x.waive(0);
        Checks.due("one of them waived", x.balance(), 30 + 15);
    }
}

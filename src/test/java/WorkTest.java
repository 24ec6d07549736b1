/** Promises 9 to 16, 20, 30 to 32 and 37 to 41: items, variations, sums, retention and stages. */
public final class WorkTest {
    private static final int BIG = Integer.MAX_VALUE;
    private static final int SMALL = Integer.MIN_VALUE;

    public static void main(String[] args) {
        promise09Quantity();
        promise10SpecialRate();
        promise10Limits();
        promise11ItemValue();
        promises12To14Sums();
        promise15Retention();
        promise20Margin();
        promises30To32Variations();
        promise37Measure();
        promise38Propose();
        promise39Approve();
        promise41NextStage();
        wrongIndexes();
        Check.end("WorkTest");
    }

    private static void promise09Quantity() {
        ConstructionLedger x = Texts.ledger("project 0;main 0 0 0;item 0 10 7;item 0 999 1;");
        Check.same("9 first", x.quantity(0, 0), 10);
        Check.same("9 second", x.quantity(0, 1), 999);
        x.propose(0, 0, 5);
        x.propose(0, 0, -15);
        x.propose(0, 0, -14);
        Check.same("9 proposed only", x.quantity(0, 0), 10);
        x.approve(0);
        Check.same("9 more", x.quantity(0, 0), 15);
        x.approve(1);
        Check.same("9 none left", x.quantity(0, 0), 0);
        Check.same("9 the other", x.quantity(0, 1), 999);
    }

    private static void promise10SpecialRate() {
        Check.same("10 without a rate", rate("", 10, 77, 20), 77);
        Check.same("10 price", rate("rate price;", 10, 77, 20), 77);
        Check.same("10 first", rate("rate first;", 10, 77, 20), 10);
        Check.same("10 excess with bound 12", rate("rate excess;", 10, 77, 20), 18);
        Check.same("10 no excess at the bound", rate("rate excess;", 10, 77, 2), 0);
        Check.same("10 excess of one", rate("rate excess;", 10, 77, 3), 1);
        Check.same("10 no excess below", rate("rate excess;", 10, 77, -9), 0);
        Check.same("10 threshold 0", rate("threshold 0;rate excess;", 10, 77, 3), 3);
        Check.same("10 threshold 100", rate("threshold 100;rate excess;", 10, 77, 13), 3);
        Check.same("10 from the left", rate("rate 20-5-3;", 10, 77, 1), 12);
        Check.same("10 products first", rate("rate 2+3*4-6/2;", 10, 77, 1), 11);
        Check.same("10 division from the left", rate("rate 100/7/2*3;", 10, 77, 1), 21);
        Check.same("10 parentheses", rate("rate (2+3)*(4-(1+1));", 10, 77, 1), 10);
        Check.same("10 toward zero", rate("rate 10+(0-7)/2;", 10, 77, 1), 7);
        Check.same("10 toward zero, other sign", rate("rate 10+7/(0-2);", 10, 77, 1), 7);
        Check.same("10 by 0", rate("rate 5+7/(price-price);", 10, 77, 1), 5);
        Check.same("10 0 by 0", rate("rate 5+0/0;", 10, 77, 1), 5);
    }

    private static void promise10Limits() {
        Check.same("10 not below 0", rate("rate 1-2;", 10, 77, 1), 0);
        Check.same("10 up to 99999", rate("rate 9999*10+9;", 10, 77, 1), 99999);
        Check.same("10 not above", rate("rate 9999*10+10;", 10, 77, 1), 99999);
        Check.same("10 product limited", rate("rate 9999*9999/100;", 10, 77, 1), 10000);
        Check.same("10 product not limited", rate("rate 1000*1000/100;", 10, 77, 1), 10000);
        Check.same("10 product just below", rate("rate 999*1001/100;", 10, 77, 1), 9999);
        Check.same("10 limited again", rate("rate 9999*9999*9999/100;", 10, 77, 1), 10000);
        Check.same("10 sum limited", rate("rate (9999*9999+5)/100;", 10, 77, 1), 10000);
        Check.same("10 limited below", rate("rate 9999+5+(0-9999)*9999/100;", 10, 77, 1), 4);
        Check.same("10 difference limited", rate("rate 9999+(0-9999*9999-9999)/100;", 10, 77, 1), 0);
        Check.same("10 order of limits", rate("rate 9999*9999-9999*99;", 10, 77, 1), 10099);
        Check.same("10 the deepest", rate("rate 1+2*(1+2*(1+2*(1+2*(1+2*5))));", 10, 77, 1), 191);
    }

    /** The special rate of one item after an approved change. */
    private static int rate(String statements, int first, int price, int change) {
        ConstructionLedger x = Texts.ledger("project 0;main 0 0 0;item 0 " + first + " " + price + ";" + statements);
        x.propose(0, 0, change);
        x.approve(0);
        return x.specialRate(0, 0);
    }

    private static void promise11ItemValue() {
        ConstructionLedger x = Texts.ledger("project 0;main 0 0 0;item 0 10 7;rate 1000;");
        Check.same("11 nothing done", x.itemValue(0, 0), 0);
        x.measure(0, 0, 99);
        Check.same("11 rounded down", x.itemValue(0, 0), 69);
        x.measure(0, 0, 100);
        Check.same("11 all", x.itemValue(0, 0), 70);
        x.propose(0, 0, 2);
        x.approve(0);
        Check.same("11 up to the bound", x.itemValue(0, 0), 84);
        x.propose(0, 0, 2);
        x.approve(1);
        Check.same("11 beyond", x.itemValue(0, 0), 2084);
        x.measure(0, 0, 33);
        Check.same("11 a part of all", x.itemValue(0, 0), 687);
        ConstructionLedger y = Texts.ledger("project 0;main 0 0 0;item 0 999 1;threshold 0;rate 9999*10+9;");
        for (int i = 0; i < 20; i++) {
            y.propose(0, 0, 999);
            y.approve(i);
        }
        y.measure(0, 0, 100);
        Check.same("11 more than an int", y.itemValue(0, 0), 999 + 19980L * 99999);
    }

    private static void promises12To14Sums() {
        ConstructionLedger x = Texts.ledger("project 0;main 0 0 0;sub 0 0 0 0 0;"
                + "item 1 10 3;item 1 4 10;rate 100;");
        Check.same("12 no items", x.firstSum(0), 0);
        Check.same("13 no items", x.presentSum(0), 0);
        Check.same("14 no items", x.grossValue(0), 0);
        Check.same("12 first", x.firstSum(1), 70);
        Check.same("13 at first", x.presentSum(1), 70);
        x.propose(1, 0, 3);
        x.propose(1, 1, -4);
        x.approve(0);
        x.approve(1);
        Check.same("12 still", x.firstSum(1), 70);
        Check.same("13 changed", x.presentSum(1), 136);
        Check.same("14 nothing done", x.grossValue(1), 0);
        x.measure(1, 0, 50);
        x.measure(1, 1, 100);
        Check.same("14 done", x.grossValue(1), 68);
        ConstructionLedger y = Texts.ledger("project 0;main 0 0 0;item 0 1 1;item 0 1 1;");
        y.measure(0, 0, 50);
        y.measure(0, 1, 50);
        Check.same("14 each item rounded", y.grossValue(0), 0);
    }

    private static void promise15Retention() {
        ConstructionLedger x = Texts.ledger("project 0;main 10 5 0;item 0 10 33;");
        x.measure(0, 0, 30);
        Check.same("15 by gross value", x.retention(0), 9);
        x.measure(0, 0, 50);
        Check.same("15 at the limit", x.retention(0), 16);
        x.measure(0, 0, 100);
        Check.same("15 limited", x.retention(0), 16);
        x.propose(0, 0, 2);
        x.approve(0);
        Check.same("15 limit of the first sum", x.retention(0), 16);
        x.nextStage(0);
        Check.same("15 half", x.retention(0), 8);
        x.measure(0, 0, 25);
        Check.same("15 half rounded down", x.retention(0), 4);
        x.nextStage(0);
        Check.same("15 none", x.retention(0), 0);
        ConstructionLedger y = Texts.ledger("project 0;main 20 0 0;item 0 10 33;sub 0 0 20 0 0;item 1 10 33;");
        y.measure(0, 0, 100);
        y.measure(1, 0, 100);
        Check.same("15 limit 0", y.retention(0), 0);
        Check.same("15 percentage 0", y.retention(1), 0);
    }

    private static void promise20Margin() {
        ConstructionLedger x = Texts.ledger("project 0;main 0 0 0;sub 0 0 0 0 0;sub 0 0 0 0 0;sub 1 0 0 0 0;"
                + "item 0 10 10;item 1 3 10;item 2 4 20;item 3 5 7;");
        Check.same("20 negative", x.margin(0), -10);
        Check.same("20 one below", x.margin(1), -5);
        Check.same("20 none below", x.margin(2), 80);
        Check.same("20 the last", x.margin(3), 35);
        x.propose(2, 0, -3);
        x.approve(0);
        Check.same("20 present sums", x.margin(0), 50);
    }

    private static void promises30To32Variations() {
        ConstructionLedger x = Texts.ledger("project 0;main 0 0 0;item 0 10 7;item 0 4 5;rate 100*excess;");
        Check.same("30 none", x.variationCount(), 0);
        x.propose(0, 0, 2);
        x.propose(0, 0, 4);
        x.propose(0, 0, -10);
        x.propose(0, 0, -11);
        Check.same("30 four", x.variationCount(), 4);
        Check.no("31 at first", x.isApproved(0));
        Check.same("32 up to the bound", x.variationWorth(0), 14);
        Check.same("32 beyond it", x.variationWorth(1), 414);
        Check.same("32 all away", x.variationWorth(2), -70);
        Check.same("32 below 0", x.variationWorth(3), 0);
        x.approve(0);
        Check.yes("31 approved", x.isApproved(0));
        Check.no("31 the next", x.isApproved(1));
        Check.same("32 approved", x.variationWorth(0), 0);
        Check.same("32 after another", x.variationWorth(1), 1600);
        Check.same("32 possible now", x.variationWorth(3), -77);
        x.measure(0, 0, 50);
        Check.same("32 whatever the progress", x.variationWorth(1), 1600);
        x.approve(1);
        Check.same("32 from beyond", x.variationWorth(2), 42 - 84 - 1600);
        Check.same("30 as many", x.variationCount(), 4);
        Check.noIndex("31 below", () -> x.isApproved(-1));
        Check.noIndex("31 above", () -> x.isApproved(4));
        Check.noIndex("32 below", () -> x.variationWorth(-1));
        Check.noIndex("32 above", () -> x.variationWorth(4));
    }

    private static void promise37Measure() {
        ConstructionLedger x = Texts.ledger("project 0;main 0 0 0;item 0 10 7;item 0 4 5;");
        Check.same("37 first", x.measure(0, 1, 40), 0);
        Check.same("37 again", x.measure(0, 1, 100), 40);
        Check.same("37 back", x.measure(0, 1, 0), 100);
        Check.same("37 the other", x.measure(0, 0, 1), 0);
        Check.noArgument("37 below", () -> x.measure(0, 0, -1));
        Check.noArgument("37 above", () -> x.measure(0, 0, 101));
        Check.noIndex("37 index first", () -> x.measure(0, 2, 101));
        Check.same("37 unchanged", x.measure(0, 0, 5), 1);
    }

    private static void promise38Propose() {
        ConstructionLedger x = Texts.ledger("project 0;main 0 0 0;item 0 10 7;");
        Check.same("38 first", x.propose(0, 0, 999), 0);
        Check.same("38 second", x.propose(0, 0, -999), 1);
        Check.noArgument("38 nothing", () -> x.propose(0, 0, 0));
        Check.noArgument("38 below", () -> x.propose(0, 0, -1000));
        Check.noArgument("38 above", () -> x.propose(0, 0, 1000));
        for (int i = 2; i < 20; i++) {
            Check.same("38 index", x.propose(0, 0, i), i);
        }
        Check.noState("38 full", () -> x.propose(0, 0, 1));
        Check.noArgument("38 argument first", () -> x.propose(0, 0, 0));
        Check.noIndex("38 index first", () -> x.propose(0, 1, 0));
        Check.same("38 as many", x.variationCount(), 20);
    }

    private static void promise39Approve() {
        ConstructionLedger x = Texts.ledger("project 0;main 0 0 0;item 0 10 7;");
        x.propose(0, 0, -11);
        x.propose(0, 0, -10);
        x.propose(0, 0, 11);
        Check.noState("39 below 0", () -> x.approve(0));
        Check.same("39 down to 0", x.approve(1), 0);
        Check.noState("39 twice", () -> x.approve(1));
        Check.same("39 up", x.approve(2), 11);
        Check.noState("39 up twice", () -> x.approve(2));
        Check.same("39 possible now", x.approve(0), 0);
        Check.noIndex("39 below", () -> x.approve(-1));
        Check.noIndex("39 above", () -> x.approve(3));
    }

    private static void promise41NextStage() {
        ConstructionLedger x = Texts.ledger("project 0;main 0 0 0;sub 0 0 0 0 0;item 0 10 7;item 0 1 1;");
        Check.same("19 at first", x.stage(0), 0);
        Check.noState("41 nothing done", () -> x.nextStage(0));
        x.measure(0, 0, 100);
        x.measure(0, 1, 99);
        Check.noState("41 nearly done", () -> x.nextStage(0));
        x.measure(0, 1, 100);
        Check.same("41 completion", x.nextStage(0), 1);
        Check.same("19 then", x.stage(0), 1);
        x.measure(0, 0, 0);
        Check.same("41 end, whatever the progress", x.nextStage(0), 2);
        Check.same("19 at the end", x.stage(0), 2);
        Check.noState("41 no further", () -> x.nextStage(0));
        Check.same("41 without items", x.nextStage(1), 1);
        Check.same("19 of the other", x.stage(1), 1);
        Check.noIndex("41 below", () -> x.nextStage(-1));
        Check.noIndex("41 above", () -> x.nextStage(2));
        Check.noIndex("19 below", () -> x.stage(-1));
        Check.noIndex("19 above", () -> x.stage(2));
    }

    private static void wrongIndexes() {
        ConstructionLedger x = Texts.ledger("project 0;main 0 0 0;sub 0 0 0 0 0;item 0 10 7;item 0 3 3;item 1 1 1;");
        for (int contract : new int[] {SMALL, -1, 2, 8, BIG}) {
            Check.noIndex("9", () -> x.quantity(contract, 0));
            Check.noIndex("10", () -> x.specialRate(contract, 0));
            Check.noIndex("11", () -> x.itemValue(contract, 0));
            Check.noIndex("12", () -> x.firstSum(contract));
            Check.noIndex("13", () -> x.presentSum(contract));
            Check.noIndex("14", () -> x.grossValue(contract));
            Check.noIndex("15", () -> x.retention(contract));
            Check.noIndex("20", () -> x.margin(contract));
            Check.noIndex("37", () -> x.measure(contract, 0, 5));
            Check.noIndex("38", () -> x.propose(contract, 0, 5));
        }
        for (int item : new int[] {SMALL, -1, 1, 6, BIG}) {
            Check.noIndex("9 item", () -> x.quantity(1, item));
            Check.noIndex("10 item", () -> x.specialRate(1, item));
            Check.noIndex("11 item", () -> x.itemValue(1, item));
            Check.noIndex("37 item", () -> x.measure(1, item, 5));
            Check.noIndex("38 item", () -> x.propose(1, item, 5));
        }
        Check.same("38 nothing added", x.variationCount(), 0);
    }
}

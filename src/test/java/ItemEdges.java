/** The document's section 'Items and variations'. */
final class ItemEdges {
    private static final String SECTION = "Items and variations";
    private static final String ONE = "project 0;main 0 0 0;item 0 10 7;";

    private ItemEdges() {
    }

    static void all() {
        items();
        variations();
        bound();
        fullValue();
        rate();
        rateArithmetic();
        value();
    }

    private static void items() {
        Says.that(SECTION, "An item has a first quantity (1 to 999), a price (0 to 9999),"
                + " and a progress (0 to 100 percent, 0 at first).", () -> {
            String head = "project 0;main 0 0 0;";
            TextEdges.refuses(head + "item 0 0 7;", ConstructionLedger.OUT_OF_RANGE, 28);
            TextEdges.refuses(head + "item 0 1000 7;", ConstructionLedger.OUT_OF_RANGE, 28);
            TextEdges.refuses(head + "item 0 1 10000;", ConstructionLedger.OUT_OF_RANGE, 30);
            ConstructionLedger x = Texts.ledger(head + "item 0 1 0;item 0 999 9999;");
            Check.same("least quantity", x.quantity(0, 0), 1);
            Check.same("least price", x.specialRate(0, 0), 0);
            Check.same("largest quantity", x.quantity(0, 1), 999);
            Check.same("largest price", x.specialRate(0, 1), 9999);
            Check.same("progress at first", x.measure(0, 1, 100), 0);
            Check.same("most progress", x.itemValue(0, 1), 999L * 9999);
            Check.same("least progress", x.measure(0, 1, 0), 100);
            Check.same("nothing done", x.itemValue(0, 1), 0);
            Refused.argument("below 0 percent", Given::busy, y -> y.measure(0, 0, -1));
            Refused.argument("above 100 percent", Given::busy, y -> y.measure(0, 0, 101));
        });
    }

    private static void variations() {
        Says.that(SECTION, "A variation changes the quantity of an item by a change (-999 to 999, not 0).", () -> {
            Check.same("most", Given.changed("", 10, 7, 999).quantity(0, 0), 1009);
            Check.same("least", Given.changed("", 999, 7, -999).quantity(0, 0), 0);
            Check.same("1", Given.changed("", 10, 7, 1).quantity(0, 0), 11);
            Check.same("-1", Given.changed("", 10, 7, -1).quantity(0, 0), 9);
            for (int change : new int[] {Integer.MIN_VALUE, -1000, 0, 1000, Integer.MAX_VALUE}) {
                Refused.argument("change " + change, Given::busy, x -> x.propose(0, 0, change));
            }
        });
        Says.that(SECTION, "It is approved or not; at first it is not.", () -> {
            ConstructionLedger x = Texts.ledger(ONE);
            x.propose(0, 0, 1);
            x.propose(0, 0, 1);
            Check.no("at first", x.isApproved(0));
            x.approve(0);
            Check.yes("approved", x.isApproved(0));
            Check.no("the other", x.isApproved(1));
        });
        Says.that(SECTION, "There are at most 20 variations.", () -> {
            Check.same("the last", full().variationCount(), 20);
            Refused.state("one more", ItemEdges::full, x -> x.propose(0, 0, 1));
            ConstructionLedger x = full();
            x.approve(19);
            Check.noState("approved ones count", () -> x.propose(0, 0, 1));
            x.undo();
            x.undo();
            Check.same("after undo", x.propose(0, 0, 1), 19);
            Texts.load(x, ONE);
            Check.same("after load", x.propose(0, 0, 1), 0);
        });
        Says.that(SECTION, "The quantity of an item is its first quantity plus the changes of its approved variations.", () -> {
            ConstructionLedger x = full();
            Check.same("none approved", x.quantity(0, 0), 10);
            for (int v = 0; v < 20; v++) {
                x.approve(v);
            }
            Check.same("all approved", x.quantity(0, 0), 10 + 20 * 999);
            Check.same("none left", Given.changed("", 10, 7, -10).quantity(0, 0), 0);
        });
    }

    /** 20 variations of one item. */
    private static ConstructionLedger full() {
        ConstructionLedger x = Texts.ledger(ONE);
        for (int v = 0; v < 20; v++) {
            x.propose(0, 0, 999);
        }
        return x;
    }

    private static void bound() {
        Says.that(SECTION, "Let bound be the first quantity plus first quantity * threshold / 100.", () -> {
            Check.same("3 * 25 / 100 is 0", excess("", 3, 1), 1);
            Check.same("4 * 25 / 100 is 1", excess("", 4, 1), 0);
            Check.same("beyond it", excess("", 4, 2), 1);
            Check.same("threshold 0", excess("threshold 0;", 999, 1), 1);
            Check.same("threshold 1, 99 units", excess("threshold 1;", 99, 1), 1);
            Check.same("threshold 1, 100 units", excess("threshold 1;", 100, 1), 0);
            Check.same("threshold 100", excess("threshold 100;", 999, 999), 0);
            Check.same("threshold 99", excess("threshold 99;", 999, 999), 10);
        });
        Says.that(SECTION, "The units of the quantity up to bound have the price of the item;"
                + " the units beyond bound have the special rate.", () -> {
            Check.same("no units", Given.changed("rate 1000;", 10, 7, -10).presentSum(0), 0);
            Check.same("one below bound", Given.changed("rate 1000;", 10, 7, 1).presentSum(0), 77);
            Check.same("at bound", Given.changed("rate 1000;", 10, 7, 2).presentSum(0), 84);
            Check.same("one beyond", Given.changed("rate 1000;", 10, 7, 3).presentSum(0), 1084);
            Check.same("two beyond", Given.changed("rate 1000;", 10, 7, 4).presentSum(0), 2084);
        });
    }

    private static int excess(String threshold, int first, int change) {
        return Given.changed(threshold + "rate excess;", first, 7, change).specialRate(0, 0);
    }

    private static void fullValue() {
        Says.that(SECTION, "The full value of an item is the sum of these prices.", () -> {
            ConstructionLedger x = Texts.ledger("project 0;main 0 0 0;item 0 999 9999;threshold 0;rate 9999*10+9;");
            Check.same("the first units", x.presentSum(0), 999L * 9999);
            for (int v = 0; v < 20; v++) {
                x.propose(0, 0, 999);
                x.approve(v);
            }
            Check.same("the most", x.presentSum(0), 999L * 9999 + 19980L * 99999);
            Check.same("nothing", Given.changed("rate 5;", 1, 7, -1).presentSum(0), 0);
        });
    }

    private static void rate() {
        Says.that(SECTION, "The special rate of an item is the value of the rate expression,"
                + " limited to the range 0 to 99999.", () -> {
            Check.same("-1", rate("0-1"), 0);
            Check.same("0", rate("1-1"), 0);
            Check.same("1", rate("2-1"), 1);
            Check.same("99998", rate("9999*10+8"), 99998);
            Check.same("99999", rate("9999*10+9"), 99999);
            Check.same("100000", rate("9999*10+10"), 99999);
            Check.same("the largest", rate("9999*9999"), 99999);
            Check.same("the smallest", rate("0-9999*9999"), 0);
        });
        Says.that(SECTION, "In the expression, price is the price of the item, first is its first quantity,"
                + " and excess is the number of units beyond bound.", () -> {
            String all = "rate price*9+first*100+excess;";
            Check.same("far below bound", Given.changed(all, 1, 0, -1).specialRate(0, 0), 100);
            Check.same("at bound", Given.changed(all, 4, 2, 1).specialRate(0, 0), 418);
            Check.same("one beyond", Given.changed(all, 4, 2, 2).specialRate(0, 0), 419);
            Check.same("largest price", Given.changed("rate price;", 1, 9999, 0).specialRate(0, 0), 9999);
            Check.same("largest first", Given.changed("rate first;", 999, 1, 0).specialRate(0, 0), 999);
            ConstructionLedger x = Texts.ledger("project 0;main 0 0 0;item 0 1 1;threshold 0;rate excess;");
            for (int v = 0; v < 20; v++) {
                x.propose(0, 0, 999);
                x.approve(v);
            }
            Check.same("largest excess", x.specialRate(0, 0), 19980);
        });
        Says.that(SECTION, "Without a rate statement the special rate is the price.", () -> {
            Check.same("largest price", Given.changed("", 4, 9999, 9).specialRate(0, 0), 9999);
            Check.same("price 0", Given.changed("", 4, 0, 9).specialRate(0, 0), 0);
            Check.same("beyond bound", Given.changed("", 4, 7, 9).presentSum(0), 13 * 7);
            ConstructionLedger x = Texts.ledger(ONE + "rate 5;");
            Texts.load(x, ONE);
            Check.same("after a project with a rate", x.specialRate(0, 0), 7);
        });
    }

    private static int rate(String sum) {
        return Given.changed("rate " + sum + ";", 10, 7, 0).specialRate(0, 0);
    }

    private static void rateArithmetic() {
        Says.that(SECTION, "Division truncates toward zero; division by 0 gives 0.", () -> {
            Check.same("7 / 2", rate("7/2"), 3);
            Check.same("-7 / 2", rate("10+(0-7)/2"), 7);
            Check.same("7 / -2", rate("10+7/(0-2)"), 7);
            Check.same("-7 / -2", rate("(0-7)/(0-2)"), 3);
            Check.same("-1 / 2", rate("10+(0-1)/2"), 10);
            Check.same("1 / 2", rate("1/2"), 0);
            Check.same("2 / 2", rate("2/2"), 1);
            Check.same("7 / 0", rate("10+7/0"), 10);
            Check.same("-7 / 0", rate("10+(0-7)/0"), 10);
            Check.same("0 / 0", rate("10+0/0"), 10);
            Check.same("0 / 7", rate("10+0/7"), 10);
            Check.same("by a part that is 0", rate("10+7/excess"), 10);
            Check.same("the least by -1", rate("(0-1000*1000)/(0-1)/100"), 10000);
        });
        Says.that(SECTION, "The result of each operation is limited to the range -1000000 to 1000000.", () -> {
            Check.same("product of 1000000", rate("1000*1000-9999*100"), 100);
            Check.same("product above", rate("1000*1001-9999*100"), 100);
            Check.same("product below", rate("1001*999-9999*100"), 99);
            Check.same("sum of 1000000", rate("9999*100+100-9999*100"), 100);
            Check.same("sum above", rate("9999*100+101-9999*100"), 100);
            Check.same("sum below", rate("9999*100+99-9999*100"), 99);
            Check.same("product of -1000000", rate("(0-1000)*1000+9999*100+200"), 100);
            Check.same("negative product beyond", rate("(0-1000)*1001+9999*100+200"), 100);
            Check.same("difference of -1000000", rate("0-9999*100-100+9999*100+200"), 100);
            Check.same("difference beyond", rate("0-9999*100-101+9999*100+200"), 100);
            Check.same("difference not so far", rate("0-9999*100-99+9999*100+200"), 101);
            Check.same("difference above", rate("9999*100-(0-101)-9999*100"), 100);
            Check.same("more than an int", rate("9999*9999*9999/100"), 10000);
        });
    }

    private static void value() {
        Says.that(SECTION, "The value of an item is its full value * progress / 100.", () -> {
            ConstructionLedger x = Texts.ledger(ONE);
            Check.same("progress 0", x.itemValue(0, 0), 0);
            x.measure(0, 0, 1);
            Check.same("progress 1", x.itemValue(0, 0), 0);
            x.measure(0, 0, 2);
            Check.same("progress 2", x.itemValue(0, 0), 1);
            x.measure(0, 0, 99);
            Check.same("progress 99", x.itemValue(0, 0), 69);
            x.measure(0, 0, 100);
            Check.same("progress 100", x.itemValue(0, 0), 70);
            Check.same("full value 0", Given.changed("", 10, 7, -10).itemValue(0, 0), 0);
        });
    }
}

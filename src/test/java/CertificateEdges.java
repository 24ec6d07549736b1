/** The document's section 'Certificates' and the steps of one day of settlement. */
final class CertificateEdges {
    private static final String SECTION = "Certificates";
    private static final String DAY = "One day of settlement consists of these steps";

    private CertificateEdges() {
    }

    static void all() {
        sums();
        retention();
        certificates();
        blocked();
        settlement();
        payments();
    }

    private static void sums() {
        Says.that(SECTION, "The first sum of a contract is the sum, over its items, of first quantity * price;"
                + " its present sum is the sum of the full values of its items;"
                + " its gross value is the sum of the values of its items.", () -> {
            ConstructionLedger x = Given.done("project 0;main 0 0 0;sub 0 0 0 0 0;sub 0 0 0 0 0;"
                    + "item 1 999 9999;".repeat(6) + "item 2 1 0;");
            for (int contract : new int[] {0, 2}) {
                Check.same("least first sum", x.firstSum(contract), 0);
                Check.same("least present sum", x.presentSum(contract), 0);
                Check.same("least gross value", x.grossValue(contract), 0);
            }
            Check.same("six items, first sum", x.firstSum(1), 6L * 999 * 9999);
            Check.same("six items, present sum", x.presentSum(1), 6L * 999 * 9999);
            Check.same("six items, gross value", x.grossValue(1), 6L * 999 * 9999);
            x.propose(1, 5, -999);
            x.approve(0);
            Check.same("the first sum stays", x.firstSum(1), 6L * 999 * 9999);
            Check.same("the last item, present sum", x.presentSum(1), 5L * 999 * 9999);
            Check.same("the last item, gross value", x.grossValue(1), 5L * 999 * 9999);
        });
    }

    private static void retention() {
        Says.that(SECTION, "The basic retention is the smaller one of gross value * retention percentage / 100"
                + " and first sum * limit percentage / 100.", () -> {
            ConstructionLedger x = Texts.ledger("project 0;main 10 5 0;item 0 10 20;");
            Check.same("no gross value", x.retention(0), 0);
            x.measure(0, 0, 49);
            Check.same("below the limit", x.retention(0), 9);
            x.measure(0, 0, 50);
            Check.same("both the same", x.retention(0), 10);
            x.measure(0, 0, 51);
            Check.same("above the limit", x.retention(0), 10);
            Check.same("0 percent of the gross value", Given.done("project 0;main 0 20 0;item 0 10 20;").retention(0), 0);
            Check.same("0 percent of the first sum", Given.done("project 0;main 20 0 0;item 0 10 20;").retention(0), 0);
            Check.same("20 percent", Given.done("project 0;main 20 20 0;item 0 10 20;").retention(0), 40);
            Check.same("both rounded", Given.done("project 0;main 20 20 0;item 0 1 9;").retention(0), 1);
            int[] firsts = {24, 25, 29, 30, 495};
            int[] limits = {4, 5, 5, 6, 99};
            for (int i = 0; i < firsts.length; i++) {
                Check.same("a fifth of a first sum of " + firsts[i], limited(firsts[i]).retention(0), limits[i]);
            }
        });
        Says.that(SECTION, "The retention is the basic retention in stage 0, half of it (rounded down) in stage 1,"
                + " and 0 in stage 2.", () -> {
            int[] half = {0, 0, 1, 1, 2};
            for (int basic = 0; basic <= 4; basic++) {
                ConstructionLedger x = Given.done("project 0;main 20 20 0;item 0 " + (5 * basic + 1) + " 1;");
                Check.same("stage 0, basic " + basic, x.retention(0), basic);
                x.nextStage(0);
                Check.same("stage 1, basic " + basic, x.retention(0), half[basic]);
                x.nextStage(0);
                Check.same("stage 2, basic " + basic, x.retention(0), 0);
            }
        });
    }

    /** The gross value is so far above the first sum that the limit counts. */
    private static ConstructionLedger limited(int firstSum) {
        ConstructionLedger x = Given.done("project 0;main 20 20 0;item 0 " + firstSum + " 1;");
        x.propose(0, 0, 999);
        x.approve(0);
        return x;
    }

    private static void certificates() {
        Says.that(SECTION, "The net value of a contract is its gross value minus its retention.", () -> {
            ConstructionLedger x = Texts.ledger("project 0;main 20 20 0;item 0 1 5;");
            Check.noState("0 - 0", () -> x.certify(0));
            x.measure(0, 0, 99);
            x.certify(0);
            Check.same("4 - 0", x.amount(0), 4);
            x.undo();
            x.measure(0, 0, 100);
            x.certify(0);
            Check.same("5 - 1", x.amount(0), 4);
        });
        Says.that(SECTION, "The certified value of a contract is the sum of the amounts of its certificates.", () -> {
            ConstructionLedger x = full();
            Check.same("40 certificates", x.certified(0), 40);
            Check.same("none", x.certified(1), 0);
            x.deposit(1);
            x.pay(0, 1);
            Check.same("paid ones count", x.certified(0), 40);
        });
        Says.that(SECTION, "A certificate for a contract has the amount (net value - certified value),"
                + " the day on which it is issued, and a due day, which is this day plus the days for payment.", () -> {
            ConstructionLedger x = Given.atDay("project 0;main 0 0 0;sub 0 0 0 60 0;item 0 1 9;item 1 1 9;", 100000);
            Check.same("0 days", x.dueDay(x.certify(0)), 100000);
            Check.same("60 days", x.dueDay(x.certify(1)), 100060);
            Check.same("nothing certified before", x.amount(0), 9);
            x.propose(0, 0, 1);
            x.approve(0);
            Check.same("the rest", x.amount(x.certify(0)), 9);
        });
        Says.that(SECTION, "There are at most 40 certificates.", () -> {
            Check.same("the last", full().certificateCount(), 40);
            Check.same("its amount", full().amount(39), 1);
            Refused.state("one more", CertificateEdges::oneMoreToCertify, x -> x.certify(0));
            Refused.state("of another contract", CertificateEdges::oneMoreToCertify, x -> x.certify(1));
            ConstructionLedger x = full();
            x.undo();
            Check.same("after undo", x.certify(0), 39);
        });
        Says.that(SECTION, "The open amount of a certificate is its amount minus what has been paid for it.", () -> {
            ConstructionLedger x = Given.done("project 9;main 0 0 0;item 0 1 9;");
            x.certify(0);
            Check.same("nothing paid", x.openAmount(0), 9);
            x.pay(0, 8);
            Check.same("nearly all", x.openAmount(0), 1);
            x.pay(0, 1);
            Check.same("all", x.openAmount(0), 0);
            Check.same("the amount stays", x.amount(0), 9);
        });
    }

    /** 40 certificates of 1 each. */
    private static ConstructionLedger full() {
        ConstructionLedger x = Texts.ledger("project 0;main 0 0 0;sub 0 0 0 0 0;item 0 100 1;item 1 1 1;");
        for (int i = 1; i <= 40; i++) {
            x.measure(0, 0, i);
            x.certify(0);
        }
        return x;
    }

    private static ConstructionLedger oneMoreToCertify() {
        ConstructionLedger x = full();
        x.measure(0, 0, 41);
        x.measure(1, 0, 100);
        return x;
    }

    private static void blocked() {
        Says.that(SECTION, "A certificate of a linked subcontract is blocked if its parent has a certificate"
                + " with an open amount above 0 that was issued on the same day or earlier.", () -> {
            Check.no("the parent has none", linked(-1).isBlocked(0));
            Check.yes("issued earlier", linked(4).isBlocked(1));
            Check.yes("issued on the same day", linked(5).isBlocked(1));
            ConstructionLedger x = linked(5);
            Check.no("the parent's own", x.isBlocked(0));
            x.pay(0, 8);
            Check.yes("1 is open", x.isBlocked(1));
            x.pay(0, 1);
            Check.no("0 is open", x.isBlocked(1));
            Check.no("issued a day later", linked(6).isBlocked(0));
            ConstructionLedger y = Given.done("project 9;main 0 0 0;sub 0 0 0 0 0;sub 1 0 0 0 0 linked;"
                    + "item 0 1 9;item 2 1 9;");
            y.certify(0);
            y.certify(2);
            Check.no("only the parent's parent has one", y.isBlocked(1));
        });
    }

    /** The linked sub's certificate is of day 5, the parent's of the given one; -1 is never. */
    private static ConstructionLedger linked(int parentDay) {
        ConstructionLedger x = Given.done("project 9;main 0 0 0;sub 0 0 0 0 0 linked;item 0 1 9;item 1 1 9;");
        for (int day = 0; day <= 6; day++) {
            if (day == parentDay) {
                x.certify(0);
            }
            if (day == 5) {
                x.certify(1);
            }
            x.pass(1);
        }
        return x;
    }

    private static void settlement() {
        Says.that(DAY, "(1) The certificates whose due day is not after the present day are treated one after the"
                + " other, by increasing due day, those with the same due day by increasing index.", () -> {
            Check.same("due tomorrow", dueOnDay3().settle(1), 0);
            ConstructionLedger x = dueOnDay3();
            x.pass(1);
            Check.same("due today", x.settle(1), 9);
            ConstructionLedger y = dueOnDay3();
            y.pass(2);
            Check.same("due yesterday", y.settle(1), 9);
            Check.same("due on the second of two days", dueOnDay3().settle(2), 9);
            order();
        });
        Says.that(DAY, "(2) The day increases by 1.", () -> {
            ConstructionLedger x = dueOnDay3();
            x.settle(1);
            Check.same("nothing paid", x.day(), 3);
            x.settle(1);
            Check.same("all paid", x.day(), 4);
            Given.passTo(x, 99999);
            x.settle(1);
            Check.same("the last day", x.day(), 100000);
        });
    }

    /** The day is 2. */
    private static ConstructionLedger dueOnDay3() {
        ConstructionLedger x = Given.done("project 9;main 0 0 3;item 0 1 9;");
        x.certify(0);
        x.pass(2);
        return x;
    }

    /** The money of firm 0 is enough for one of three certificates of 5. */
    private static void order() {
        ConstructionLedger x = Given.done("project 5;main 0 0 0;sub 0 0 0 2 0;sub 0 0 0 1 0;sub 0 0 0 1 0;"
                + "item 0 1 5;item 1 1 5;item 2 1 5;item 3 1 5;");
        Given.payMain(x, 5);
        for (int c = 1; c <= 3; c++) {
            x.certify(c);
        }
        x.pass(3);
        x.settle(1);
        Check.same("due later, lower index", x.openAmount(1), 5);
        Check.same("due first, lower index", x.openAmount(2), 0);
        Check.same("due first, higher index", x.openAmount(3), 5);
        ConstructionLedger y = Given.done("project 5;main 0 0 0;sub 0 0 0 2 0;sub 0 0 0 1 0;"
                + "item 0 1 5;item 1 1 5;item 2 1 5;");
        y.certify(1);
        y.certify(2);
        Given.payMain(y, 5);
        y.pass(3);
        y.settle(1);
        Check.same("due later, index 0", y.openAmount(0), 5);
        Check.same("due first, index 1", y.openAmount(1), 0);
    }

    private static void payments() {
        Says.that(DAY, "For each one that is not blocked at that moment, the payer pays the open amount, or as much"
                + " of it as the payer's account holds; it is added to the account of the firm.", () -> {
            int[] paid = {0, 1, 8, 9, 9};
            int[] held = {0, 1, 8, 9, 10};
            for (int i = 0; i < held.length; i++) {
                ConstructionLedger x = Given.done("project " + held[i] + ";main 0 0 0;item 0 1 9;");
                x.certify(0);
                Check.same("paid of " + held[i], x.settle(1), paid[i]);
                Check.same("owner of " + held[i], x.account(0), held[i] - paid[i]);
                Check.same("firm of " + held[i], x.account(1), paid[i]);
                Check.same("open of " + held[i], x.openAmount(0), 9 - paid[i]);
            }
            atThatMoment();
        });
    }

    /** The parent's certificate is treated before the linked sub's one, or behind it. */
    private static void atThatMoment() {
        String items = "item 0 1 9;item 1 1 9;";
        ConstructionLedger x = Given.done("project 9;main 0 0 0;sub 0 0 0 0 0 linked;" + items);
        x.certify(0);
        x.certify(1);
        Check.yes("blocked before", x.isBlocked(1));
        Check.same("free when its turn comes", x.settle(1), 18);
        ConstructionLedger y = Given.done("project 9;main 0 0 0;sub 0 0 0 0 0 linked;" + items);
        y.certify(1);
        y.certify(0);
        Check.same("blocked when its turn comes", y.settle(1), 9);
        Check.no("free behind its turn", y.isBlocked(0));
        Check.same("free on the next day", y.settle(1), 9);
        ConstructionLedger z = Given.done("project 8;main 0 0 0;sub 0 0 0 0 0 linked;" + items);
        z.certify(0);
        z.certify(1);
        Check.same("1 stays open", z.settle(1), 8);
        Check.same("so the sub gets nothing", z.account(2), 0);
    }
}

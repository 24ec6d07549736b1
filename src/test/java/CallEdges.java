/** The promises 37 to 47: the changing methods but load and undo. */
final class CallEdges {
    private static final int LOWEST = Integer.MIN_VALUE;
    private static final int HIGHEST = Integer.MAX_VALUE;
    private static final String ONE = "project 100;main 0 0 0;item 0 10 7;";
    private static final String NO_PROJECT_OR_DAY = "Throws `IllegalStateException` if there is no project,"
            + " or if the day would be greater than 100000";
    private static final String DAYS_OUT_OF_RANGE = "Throws `IllegalArgumentException` if days is out of range";

    private CallEdges() {
    }

    static void all() {
        measure();
        propose();
        approve();
        certify();
        nextStage();
        pay();
        payRefused();
        deposit();
        pass();
        settle();
        fileLien();
        fileLienRefused();
        withdrawLien();
    }

    private static void measure() {
        Says.that(37, "Sets the progress of an item.", () -> {
            ConstructionLedger x = Texts.ledger(ONE + "item 0 10 7;");
            x.measure(0, 1, 100);
            Check.same("that item", x.itemValue(0, 1), 70);
            Check.same("not the one beside it", x.itemValue(0, 0), 0);
        });
        Says.that(37, "- `progress`: 0 to 100", () -> {
            ConstructionLedger x = Texts.ledger(ONE);
            for (int progress : new int[] {100, 0, 1, 99}) {
                x.measure(0, 0, progress);
                Check.same("progress " + progress, x.itemValue(0, 0), 70 * progress / 100);
            }
        });
        Says.that(37, "Returns the previous progress.", () -> {
            ConstructionLedger x = Texts.ledger(ONE);
            Check.same("at first", x.measure(0, 0, 100), 0);
            Check.same("all", x.measure(0, 0, 100), 100);
            Check.same("all again", x.measure(0, 0, 0), 100);
            Check.same("nothing", x.measure(0, 0, 0), 0);
        });
        Says.that(37, "Throws `IllegalArgumentException` if progress is out of range", () -> {
            for (int progress : new int[] {LOWEST, -1, 101, HIGHEST}) {
                Refused.argument("progress " + progress, Given::busy, x -> x.measure(0, 0, progress));
            }
        });
    }

    private static void propose() {
        Says.that(38, "Adds a variation that is not approved.", () -> {
            ConstructionLedger x = Texts.ledger(ONE);
            x.propose(0, 0, 1);
            Check.no("approved", x.isApproved(0));
            Check.same("quantity", x.quantity(0, 0), 10);
            x.approve(0);
            x.undo();
            x.undo();
            for (int more = 0; more < 9; more++) {
                x.pass(1);
                x.propose(0, 0, 1);
                Check.no("approved, of those before an undone one", x.isApproved(more));
                x.approve(more);
                x.undo();
                Check.no("approved, and undone", x.isApproved(more));
            }
        });
        Says.that(38, "- `change`: -999 to 999, not 0", () -> {
            ConstructionLedger x = Texts.ledger("project 0;main 0 0 0;item 0 999 1;");
            int[] changes = {-999, -1, 1, 999};
            for (int v = 0; v < 4; v++) {
                x.propose(0, 0, changes[v]);
                Check.same("change " + changes[v], x.variationWorth(v), changes[v]);
            }
        });
        Says.that(38, "Returns the index of the variation.", () -> {
            ConstructionLedger x = Texts.ledger(ONE);
            for (int v = 0; v < 20; v++) {
                Check.same("index", x.propose(0, 0, 1), v);
            }
        });
        Says.that(38, "Throws `IllegalArgumentException` if change is out of range", () -> {
            for (int change : new int[] {LOWEST, -1000, 0, 1000, HIGHEST}) {
                Refused.argument("change " + change, Given::busy, x -> x.propose(2, 0, change));
            }
        });
        Says.that(38, "Throws `IllegalStateException` if there are 20 variations", () -> {
            Check.same("19 before", proposed(19).propose(0, 0, 1), 19);
            Refused.state("20 before", () -> proposed(20), x -> x.propose(0, 0, 1));
        });
    }

    private static ConstructionLedger proposed(int variations) {
        ConstructionLedger x = Texts.ledger(ONE);
        for (int v = 0; v < variations; v++) {
            x.propose(0, 0, 1);
        }
        return x;
    }

    private static void approve() {
        Says.that(39, "Returns the quantity of its item then.", () -> {
            ConstructionLedger x = Texts.ledger(ONE);
            x.propose(0, 0, -10);
            x.propose(0, 0, 999);
            Check.same("none left", x.approve(0), 0);
            Check.same("from none", x.approve(1), 999);
        });
        Says.that(39, "Throws `IllegalStateException` if it is approved already,"
                + " or if the quantity of the item would be negative", () -> {
            Refused.state("approved", Given::busy, x -> x.approve(0));
            Refused.state("-1", () -> reduced(-11), x -> x.approve(0));
            Check.same("0", reduced(-10).approve(0), 0);
            Check.same("1", reduced(-9).approve(0), 1);
            ConstructionLedger x = reduced(-10);
            x.approve(0);
            Check.noState("approved, and negative once more", () -> x.approve(0));
            x.propose(0, 0, -1);
            Check.noState("-1 after another one", () -> x.approve(1));
            x.propose(0, 0, 1);
            x.approve(2);
            Check.same("possible now", x.approve(1), 0);
        });
    }

    private static ConstructionLedger reduced(int change) {
        ConstructionLedger x = Texts.ledger(ONE);
        x.propose(0, 0, change);
        return x;
    }

    private static void certify() {
        Says.that(40, "Returns the index of the certificate.", () -> {
            ConstructionLedger x = measured(40);
            Check.same("the last", x.certificateCount(), 40);
            Check.same("of it", x.certificateContract(39), 0);
            Check.same("the first", measured(0).certificateCount(), 0);
        });
        Says.that(40, "Throws `IllegalStateException` if its amount would not be above 0,"
                + " or if there are 40 certificates", () -> {
            Refused.state("nothing done", () -> Texts.ledger(ONE), x -> x.certify(0));
            Refused.state("no items", () -> Texts.ledger(Given.LEAST), x -> x.certify(0));
            Refused.state("0 more", () -> measured(5), x -> x.certify(0));
            Refused.state("1 less", () -> remeasured(5, 4), x -> x.certify(0));
            ConstructionLedger x = remeasured(5, 6);
            Check.same("1 more", x.certify(0), 5);
            Check.same("its amount", x.amount(5), 1);
            Check.same("39 before", remeasured(39, 40).certify(0), 39);
            Refused.state("40 before", () -> remeasured(40, 41), y -> y.certify(0));
            Refused.state("all is kept back", () -> Given.done("project 0;main 20 20 0;item 0 1 0;"),
                    y -> y.certify(0));
        });
    }

    /** Certificates of 1 each. */
    private static ConstructionLedger measured(int certificates) {
        ConstructionLedger x = Texts.ledger("project 0;main 0 0 0;item 0 100 1;");
        for (int i = 1; i <= certificates; i++) {
            x.measure(0, 0, i);
            Check.same("index", x.certify(0), i - 1);
        }
        return x;
    }

    private static ConstructionLedger remeasured(int certificates, int progress) {
        ConstructionLedger x = measured(certificates);
        x.measure(0, 0, progress);
        return x;
    }

    private static void nextStage() {
        Says.that(41, "Returns the new stage.", () -> {
            ConstructionLedger x = Texts.ledger(Given.LEAST);
            Check.same("completion", x.nextStage(0), 1);
            Check.same("end", x.nextStage(0), 2);
        });
        Says.that(41, "Throws `IllegalStateException` if it is in stage 2,"
                + " or if it is in stage 0 and one of its items has a progress below 100", () -> {
            Refused.state("stage 2", () -> staged(2), x -> x.nextStage(0));
            for (int item = 0; item < 6; item++) {
                int unfinished = item;
                Refused.state("99 percent of item " + item, () -> unfinished(unfinished, 99), x -> x.nextStage(0));
            }
            Refused.state("0 percent", () -> unfinished(5, 0), x -> x.nextStage(0));
            Check.same("100 percent", unfinished(5, 100).nextStage(0), 1);
            Check.same("no items", Texts.ledger(Given.LEAST).nextStage(0), 1);
            ConstructionLedger x = staged(1);
            x.measure(0, 0, 0);
            Check.same("stage 1 and 0 percent", x.nextStage(0), 2);
            Check.noState("stage 2 and 0 percent", () -> x.nextStage(0));
            ConstructionLedger y = Given.done(ONE + "sub 0 0 0 0 0;item 1 1 1;");
            y.measure(1, 0, 0);
            Check.same("an item of another contract", y.nextStage(0), 1);
        });
    }

    private static ConstructionLedger staged(int stage) {
        ConstructionLedger x = Given.done(ONE);
        for (int i = 0; i < stage; i++) {
            x.nextStage(0);
        }
        return x;
    }

    private static ConstructionLedger unfinished(int item, int progress) {
        ConstructionLedger x = Given.done("project 0;main 0 0 0;" + "item 0 1 1;".repeat(6));
        x.measure(0, item, progress);
        return x;
    }

    /** A certificate of 9, due on day 60; the owner holds the given sum. */
    private static ConstructionLedger certified(int held) {
        ConstructionLedger x = Given.done("project " + held + ";main 0 0 60;item 0 1 9;");
        x.certify(0);
        return x;
    }

    private static void pay() {
        Says.that(42, "The payer of a contract pays a part of a certificate, or all of it; it need not be due.", () -> {
            ConstructionLedger x = certified(9);
            x.pay(0, 1);
            Check.same("a part, owner", x.account(0), 8);
            Check.same("a part, firm", x.account(1), 1);
            x.pay(0, 8);
            Check.same("all, owner", x.account(0), 0);
            Check.same("all, firm", x.account(1), 9);
            ConstructionLedger y = certified(9);
            y.pass(60);
            Check.same("on the due day", y.pay(0, 9), 0);
            ConstructionLedger z = certified(9);
            z.pass(61);
            Check.same("behind the due day", z.pay(0, 9), 0);
        });
        Says.that(42, "- `amount`: 1 or more", () -> {
            Check.same("1", certified(9).pay(0, 1), 8);
            ConstructionLedger x = Given.done("project 9999999;main 0 0 0;threshold 0;rate 9999*10+9;item 0 999 9999;");
            for (int v = 0; v < 20; v++) {
                x.propose(0, 0, 999);
                x.approve(v);
            }
            x.certify(0);
            Check.same("the highest amount", x.amount(0), 999L * 9999 + 19980L * 99999);
            Check.noState("but not so much money", () -> x.pay(0, 999999999));
        });
        Says.that(42, "Returns the open amount of the certificate then.", () -> {
            Check.same("all but 1", certified(9).pay(0, 8), 1);
            Check.same("all", certified(9).pay(0, 9), 0);
        });
    }

    private static void payRefused() {
        Says.that(42, "Throws `IllegalArgumentException` if amount is less than 1 or greater than the open amount", () -> {
            for (int amount : new int[] {LOWEST, -1, 0, 10, HIGHEST}) {
                Refused.argument("amount " + amount + " of 9", () -> certified(99), x -> x.pay(0, amount));
            }
            ConstructionLedger x = certified(99);
            x.pay(0, 4);
            Check.noArgument("6 of 5", () -> x.pay(0, 6));
            Check.same("5 of 5", x.pay(0, 5), 0);
            Check.noArgument("1 of 0", () -> x.pay(0, 1));
        });
        Says.that(42, "Throws `IllegalStateException` if the certificate is blocked,"
                + " or if the account of the payer holds less", () -> {
            Refused.state("1 less", () -> certified(8), x -> x.pay(0, 9));
            Check.same("just as much", certified(9).pay(0, 9), 0);
            Check.same("less than all", certified(8).pay(0, 8), 1);
            Refused.state("nothing", () -> certified(0), x -> x.pay(0, 1));
            Refused.state("blocked by 1", () -> parentOpen(1), x -> x.pay(1, 1));
            Check.same("not blocked", parentOpen(0).pay(1, 1), 8);
        });
    }

    /** The linked sub's payer has money, and so much of its own certificate is open. */
    private static ConstructionLedger parentOpen(int open) {
        ConstructionLedger x = Given.done("project 9;main 0 0 0;sub 0 0 0 0 0 linked;item 0 1 9;item 1 1 9;");
        x.certify(0);
        x.certify(1);
        x.pay(0, 9 - open);
        return x;
    }

    private static void deposit() {
        Says.that(43, "- `amount`: 1 to 9999999", () -> {
            Check.same("least", Texts.ledger(Given.LEAST).deposit(1), 8);
            Check.same("most", Texts.ledger(Given.LEAST).deposit(9999999), 10000006);
        });
        Says.that(43, "Returns what the account holds then.", () -> {
            Check.same("from nothing", Texts.ledger("project 0;main 0 0 0;").deposit(1), 1);
            ConstructionLedger x = ChangeEdges.fullAccount();
            x.undo();
            Check.same("the most", x.deposit(99), 999999999);
        });
        Says.that(43, "Throws `IllegalArgumentException` if amount is out of range", () -> {
            for (int amount : new int[] {LOWEST, -1, 0, 10000000, HIGHEST}) {
                Refused.argument("amount " + amount, Given::busy, x -> x.deposit(amount));
            }
        });
        Says.that(43, "Throws `IllegalStateException` if there is no project,"
                + " or if the account would hold more than 999999999", () -> {
            Refused.state("no project", ConstructionLedger::new, x -> x.deposit(1));
            Refused.state("1 above", ChangeEdges::fullAccount, x -> x.deposit(1));
            Refused.state("far above", ChangeEdges::fullAccount, x -> x.deposit(9999999));
            ConstructionLedger y = ChangeEdges.fullAccount();
            y.undo();
            Check.noState("99 missing, 100 more", () -> y.deposit(100));
            Check.same("99 missing, 98 more", y.deposit(98), 999999998);
            Check.same("1 missing", y.deposit(1), 999999999);
        });
    }

    private static void pass() {
        Says.that(44, "Lets days pass without settlement.", () -> {
            ConstructionLedger x = certified(9);
            x.pass(365);
            Check.same("nothing is paid", x.openAmount(0), 9);
        });
        Says.that(44, "- `days`: 1 to 365", () -> {
            Check.same("least", Texts.ledger(ONE).pass(1), 1);
            Check.same("most", Texts.ledger(ONE).pass(365), 365);
        });
        Says.that(44, "Returns the day then.", () -> {
            Check.same("the last day", Given.atDay(ONE, 99999).pass(1), 100000);
        });
        Says.that(44, DAYS_OUT_OF_RANGE, () -> {
            for (int days : new int[] {LOWEST, -1, 0, 366, HIGHEST}) {
                Refused.argument("days " + days, Given::busy, x -> x.pass(days));
            }
        });
        Says.that(44, NO_PROJECT_OR_DAY, () -> {
            Refused.state("no project", ConstructionLedger::new, x -> x.pass(1));
            Refused.state("day 100001", () -> Given.atDay(ONE, 100000), x -> x.pass(1));
            Refused.state("day 100001 by 365", () -> Given.atDay(ONE, 99636), x -> x.pass(365));
            Check.same("day 100000 by 365", Given.atDay(ONE, 99635).pass(365), 100000);
        });
    }

    private static void settle() {
        Says.that(45, "Does some days of settlement.", () -> {
            ConstructionLedger x = certified(9);
            Check.same("up to the due day", x.settle(60), 0);
            Check.same("open still", x.openAmount(0), 9);
            x.undo();
            Check.same("the due day included", x.settle(61), 9);
            Check.same("paid", x.openAmount(0), 0);
        });
        Says.that(45, "- `days`: 1 to 100", () -> {
            ConstructionLedger x = Texts.ledger(ONE);
            x.settle(1);
            Check.same("least", x.day(), 1);
            x.settle(100);
            Check.same("most", x.day(), 101);
        });
        Says.that(45, "Returns the sum of all amounts that were paid.", () -> {
            Check.same("no certificate", Texts.ledger(ONE).settle(100), 0);
            Check.same("a part", certified(8).settle(100), 8);
            Check.same("all", certified(10).settle(100), 9);
            ConstructionLedger x = Given.done("project 9;main 0 0 0;sub 0 0 0 1 0;item 0 1 9;item 1 1 9;");
            x.certify(0);
            x.certify(1);
            Check.same("of both days, the same money", x.settle(2), 18);
        });
        Says.that(45, DAYS_OUT_OF_RANGE, () -> {
            for (int days : new int[] {LOWEST, -1, 0, 101, HIGHEST}) {
                Refused.argument("days " + days, Given::busy, x -> x.settle(days));
            }
        });
        Says.that(45, NO_PROJECT_OR_DAY, () -> {
            Refused.state("no project", ConstructionLedger::new, x -> x.settle(1));
            Refused.state("day 100001", () -> Given.atDay(ONE, 100000), x -> x.settle(1));
            Refused.state("day 100001 by 100", () -> Given.atDay(ONE, 99901), x -> x.settle(100));
            ConstructionLedger x = Given.atDay(ONE, 99900);
            x.settle(100);
            Check.same("day 100000 by 100", x.day(), 100000);
        });
    }

    private static void fileLien() {
        Says.that(46, "Files a lien of a contract for its overdue amount.", () -> {
            ConstructionLedger x = Given.done("project 9;main 0 0 1;item 0 1 9;");
            x.certify(0);
            x.pay(0, 8);
            x.pass(2);
            x.propose(0, 0, 1);
            x.approve(0);
            x.certify(0);
            x.fileLien(0);
            Check.same("1 is overdue of 10", x.claim(0), 1);
            x.withdrawLien(0);
            x.undo();
            x.undo();
            x.pass(2);
            x.fileLien(0);
            Check.same("not withdrawn, as an undone one was", x.claim(0), 10);
        });
        Says.that(46, "Returns the index of the lien.", () -> {
            ConstructionLedger x = overdue();
            for (int lien = 0; lien < 12; lien++) {
                Check.same("index", x.fileLien(0), lien);
                x.withdrawLien(lien);
            }
        });
    }

    /** A certificate of 9, due yesterday. */
    private static ConstructionLedger overdue() {
        ConstructionLedger x = Given.done("project 9;main 0 0 0;item 0 1 9;");
        x.certify(0);
        x.pass(1);
        return x;
    }

    private static void fileLienRefused() {
        Says.that(46, "Throws `IllegalStateException` if the overdue amount is 0,"
                + " if a lien of the contract has a claim above 0, or if there are 12 liens", () -> {
            Refused.state("no certificate", () -> Given.done(ONE), x -> x.fileLien(0));
            Refused.state("due today", () -> dueOn(60), x -> x.fileLien(0));
            Check.same("due yesterday", dueOn(61).fileLien(0), 0);
            ConstructionLedger paid = overdue();
            paid.pay(0, 8);
            Check.same("1 is overdue", paid.fileLien(0), 0);
            paid.undo();
            paid.pay(0, 1);
            Check.noState("0 are overdue", () -> paid.fileLien(0));
            Refused.state("a claim of 9", () -> filed(0), x -> x.fileLien(0));
            Refused.state("a claim of 1", () -> filed(8), x -> x.fileLien(0));
            Check.same("a withdrawn lien", withdrawn(1).fileLien(0), 1);
            Check.same("11 liens", withdrawn(11).fileLien(0), 11);
            Refused.state("12 liens", () -> withdrawn(12), x -> x.fileLien(0));
            ConstructionLedger sunk = filed(9);
            Check.noState("a claim of 0, and nothing overdue", () -> sunk.fileLien(0));
            ConstructionLedger two = Given.liens(new int[] {1, 1}, new int[] {5});
            Check.noState("no certificate, whatever the others' liens", () -> two.fileLien(2));
            ConstructionLedger other = Given.liens(new int[] {1, 1}, new int[] {5, 6});
            other.withdrawLien(1);
            Check.same("a claim of another contract", other.fileLien(2), 2);
        });
    }

    private static ConstructionLedger dueOn(int day) {
        ConstructionLedger x = certified(9);
        x.pass(day);
        return x;
    }

    private static ConstructionLedger filed(int paid) {
        ConstructionLedger x = overdue();
        x.fileLien(0);
        if (paid > 0) {
            x.pay(0, paid);
        }
        return x;
    }

    private static ConstructionLedger withdrawn(int liens) {
        ConstructionLedger x = overdue();
        for (int lien = 0; lien < liens; lien++) {
            x.fileLien(0);
            x.withdrawLien(lien);
        }
        return x;
    }

    private static void withdrawLien() {
        Says.that(47, "Returns its claim before.", () -> {
            Check.same("9", filed(0).withdrawLien(0), 9);
            Check.same("1", filed(8).withdrawLien(0), 1);
            Check.same("0", filed(9).withdrawLien(0), 0);
        });
        Says.that(47, "Throws `IllegalStateException` if it has been withdrawn already", () -> {
            Refused.state("withdrawn", () -> withdrawn(1), x -> x.withdrawLien(0));
            Refused.state("the last of 12", () -> withdrawn(12), x -> x.withdrawLien(11));
            ConstructionLedger x = filed(9);
            Check.same("a claim of 0 is not withdrawn", x.withdrawLien(0), 0);
            Check.noState("withdrawn with a claim of 0", () -> x.withdrawLien(0));
            ConstructionLedger y = withdrawn(1);
            y.undo();
            Check.same("after undo", y.withdrawLien(0), 9);
        });
    }
}

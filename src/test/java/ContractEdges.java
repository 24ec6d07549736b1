/** The document's sections 'What it is', 'Conventions' and 'Contracts'. */
final class ContractEdges {
    private static final String SUB = "sub 0 1 1 1 1;";

    private ContractEdges() {
    }

    static void all() {
        calls();
        conventions();
        contracts();
        ranges();
        stagesAndAccounts();
    }

    private static void calls() {
        Says.that("What it is", "An object is used for at most 512 calls after it has been made;"
                + " what later calls answer is free.", () -> {
            ConstructionLedger x = new ConstructionLedger();
            Texts.append(x, Texts.bytesOf(Given.LEAST_20));
            x.load(20);
            for (int call = 3; call <= 511; call++) {
                x.pass(1);
            }
            Check.same("the 512th call", x.day(), 509);
            ConstructionLedger y = new ConstructionLedger();
            for (int call = 1; call <= 510; call += 2) {
                Texts.append(y, Texts.bytesOf(Given.LEAST_20));
                y.load(20);
            }
            y.undo();
            Check.same("the 512th call after 255 loads", y.undo(), 6);
        });
    }

    private static void conventions() {
        Says.that("Conventions", "Division rounds down; all dividends are 0 or more except in the rate expression.", () -> {
            ConstructionLedger x = Texts.ledger("project 0;main 1 20 0;item 0 1 100;item 0 1 0;");
            Check.same("a dividend of 0", x.grossValue(0), 0);
            x.measure(0, 1, 100);
            Check.same("0 * 100 / 100", x.itemValue(0, 1), 0);
            x.measure(0, 0, 99);
            Check.same("99 * 1 / 100", x.retention(0), 0);
            x.measure(0, 0, 100);
            Check.same("100 * 1 / 100", x.retention(0), 1);
        });
        Says.that("Conventions", "Contracts, certificates, variations and liens have indexes from 0"
                + " in the order in which they are added.", () -> {
            ConstructionLedger x = Given.done("project 0;main 0 0 0;sub 0 0 0 0 0;sub 1 0 0 0 0;"
                    + "item 2 1 30;item 1 1 20;item 0 1 10;");
            for (int c = 0; c < 3; c++) {
                Check.same("contract " + c, x.firstSum(c), 10 + 10 * c);
            }
            Check.same("first certificate", x.certify(2), 0);
            Check.same("second certificate", x.certify(0), 1);
            Check.same("certificate 0", x.amount(0), 30);
            Check.same("certificate 1", x.amount(1), 10);
            Check.same("first variation", x.propose(1, 0, 1), 0);
            Check.same("second variation", x.propose(0, 0, 1), 1);
            Check.same("variation 0", x.variationWorth(0), 20);
            Check.same("variation 1", x.variationWorth(1), 10);
            x.pass(1);
            Check.same("first lien", x.fileLien(2), 0);
            Check.same("second lien", x.fileLien(0), 1);
            Check.same("lien 0", x.claim(0), 30);
            Check.same("lien 1", x.claim(1), 10);
        });
        Says.that("Conventions", "The items of a contract have indexes from 0.", () -> {
            ConstructionLedger x = Texts.ledger("project 0;main 0 0 0;sub 0 0 0 0 0;"
                    + "item 1 11 1;item 0 1 1;item 1 12 1;item 0 2 1;");
            Check.same("first of the first", x.quantity(0, 0), 1);
            Check.same("last of the first", x.quantity(0, 1), 2);
            Check.same("first of the second", x.quantity(1, 0), 11);
            Check.same("last of the second", x.quantity(1, 1), 12);
        });
        Says.that("Conventions", "The day is the number of days that have passed, 0 at first.", () -> {
            ConstructionLedger x = new ConstructionLedger();
            Check.same("without a project", x.day(), 0);
            Texts.load(x, Given.LEAST);
            Check.same("at first", x.day(), 0);
            x.pass(1);
            Check.same("passed", x.day(), 1);
            x.settle(1);
            Check.same("settled", x.day(), 2);
        });
    }

    private static void contracts() {
        Says.that("Contracts", "There are 1 to 8 contracts.", () -> {
            TextEdges.refuses("project 7;", ConstructionLedger.SYNTAX_ERROR, 10);
            TextEdges.accepts(Given.HEAD, 1);
            TextEdges.accepts(Given.HEAD + SUB, 2);
            TextEdges.accepts(Given.HEAD + SUB.repeat(7), 8);
            TextEdges.refuses(Given.HEAD + SUB.repeat(8), ConstructionLedger.TOO_MANY, 21 + 7 * 14);
        });
        Says.that("Contracts", "Contract 0 is the main contract; its payer is the owner.", () -> {
            ConstructionLedger x = Given.done("project 5;main 0 0 0;item 0 1 5;");
            x.certify(0);
            x.pay(0, 5);
            Check.same("owner", x.account(0), 0);
            Check.same("firm 0", x.account(1), 5);
        });
        Says.that("Contracts", "Every other contract is a subcontract with a parent, which is an earlier contract;"
                + " its payer is the firm of the parent.", () -> {
            TextEdges.accepts(Given.HEAD + SUB + "sub 1 1 1 1 1;", 3);
            TextEdges.refuses(Given.HEAD + SUB + "sub 2 1 1 1 1;", ConstructionLedger.OUT_OF_RANGE, 39);
            TextEdges.refuses(Given.HEAD + SUB + "sub 3 1 1 1 1;" + SUB, ConstructionLedger.OUT_OF_RANGE, 39);
            ConstructionLedger x = Given.done("project 9;main 0 0 0;" + "sub 0 0 0 0 0;".repeat(6)
                    + "sub 6 0 0 0 0;item 0 1 9;item 6 1 8;item 7 1 7;");
            Check.same("last parent", x.parent(7), 6);
            x.certify(0);
            x.certify(6);
            x.certify(7);
            x.pay(0, 9);
            x.pay(1, 8);
            x.pay(2, 7);
            Check.same("firm 0", x.account(1), 1);
            Check.same("firm 6", x.account(7), 1);
            Check.same("firm 7", x.account(8), 7);
        });
        Says.that("Contracts", "A subcontract may be linked.", () -> {
            TextEdges.accepts(Given.HEAD + "sub 0 1 1 1 1 linked;", 2);
            TextEdges.refuses("project 7;main 1 2 3 linked;", ConstructionLedger.SYNTAX_ERROR, 21);
            ConstructionLedger x = Given.done("project 9;main 0 0 0;sub 0 0 0 0 0 linked;sub 0 0 0 0 0;"
                    + "item 0 1 9;item 1 1 9;item 2 1 9;");
            for (int c = 0; c < 3; c++) {
                x.certify(c);
            }
            Check.no("main", x.isBlocked(0));
            Check.yes("linked", x.isBlocked(1));
            Check.no("not linked", x.isBlocked(2));
        });
    }

    private static void ranges() {
        Says.that("Contracts", "A contract has a retention percentage (0 to 20), a limit percentage (0 to 20),"
                + " a number of days for payment (0 to 60), a rank (0 to 3; 0 for the main contract),"
                + " and 0 to 6 items.", () -> {
            TextEdges.accepts("project 7;main 0 0 0;sub 0 0 0 0 0;", 2);
            TextEdges.accepts("project 7;main 20 20 60;sub 0 20 20 60 3;", 2);
            TextEdges.refuses("project 7;main 21 1 1;", ConstructionLedger.OUT_OF_RANGE, 15);
            TextEdges.refuses("project 7;main 1 21 1;", ConstructionLedger.OUT_OF_RANGE, 17);
            TextEdges.refuses("project 7;main 1 1 61;", ConstructionLedger.OUT_OF_RANGE, 19);
            TextEdges.refuses(Given.HEAD + "sub 0 21 1 1 1;", ConstructionLedger.OUT_OF_RANGE, 27);
            TextEdges.refuses(Given.HEAD + "sub 0 1 21 1 1;", ConstructionLedger.OUT_OF_RANGE, 29);
            TextEdges.refuses(Given.HEAD + "sub 0 1 1 61 1;", ConstructionLedger.OUT_OF_RANGE, 31);
            TextEdges.refuses(Given.HEAD + "sub 0 1 1 1 4;", ConstructionLedger.OUT_OF_RANGE, 33);
            items();
            mainHasRank0();
        });
    }

    private static void items() {
        String six = Given.HEAD + SUB + "item 1 5 5;".repeat(6);
        Check.same("no items", Texts.ledger(six).itemCount(0), 0);
        Check.same("six items", Texts.ledger(six).itemCount(1), 6);
        Check.same("last item", Texts.ledger(six).quantity(1, 5), 5);
        TextEdges.refuses(six + "item 1 5 5;", ConstructionLedger.TOO_MANY, six.length() + 5);
        Check.same("six of both", Texts.ledger(six + "item 0 5 5;".repeat(6)).itemCount(0), 6);
    }

    private static void mainHasRank0() {
        ConstructionLedger x = Given.done("project 0;main 0 0 0;sub 0 0 0 0 1;item 0 1 5;item 1 1 5;");
        x.certify(0);
        x.certify(1);
        x.pass(1);
        x.fileLien(1);
        x.fileLien(0);
        Check.same("main before rank 1", x.priority(0), 1);
        Check.same("nothing for rank 1", x.share(0, 5), 0);
    }

    private static void stagesAndAccounts() {
        Says.that("Contracts", "Each contract is in a stage: 0 at first, 1 after the completion, 2 at the end.", () -> {
            ConstructionLedger x = Texts.ledger(Given.HEAD + SUB);
            Check.same("at first", x.stage(1), 0);
            x.nextStage(1);
            Check.same("after the completion", x.stage(1), 1);
            x.nextStage(1);
            Check.same("at the end", x.stage(1), 2);
            Check.same("the other", x.stage(0), 0);
            Texts.load(x, Given.HEAD + SUB);
            Check.same("at first again", x.stage(1), 0);
        });
        Says.that("Contracts", "Account 0 belongs to the owner, and account k + 1 to firm k.", () -> {
            ConstructionLedger x = Given.done("project 9;main 0 0 0;" + "sub 0 0 0 0 0;".repeat(7)
                    + "item 0 1 9;item 7 1 4;");
            x.certify(0);
            x.certify(7);
            Check.same("owner", x.account(0), 9);
            x.pay(0, 9);
            Check.same("owner has paid", x.account(0), 0);
            Check.same("firm 0", x.account(1), 9);
            x.pay(1, 4);
            Check.same("firm 0 has paid", x.account(1), 5);
            Check.same("the last but one", x.account(7), 0);
            Check.same("the last", x.account(8), 4);
        });
        Says.that("Contracts", "The accounts of firms are 0 at first.", () -> {
            String text = "project 9999999;main 0 0 0;" + "sub 0 0 0 0 0;".repeat(7) + "item 0 1 9;";
            ConstructionLedger x = Given.done(text);
            x.certify(0);
            x.pay(0, 9);
            Texts.load(x, text);
            for (int k = 0; k < 8; k++) {
                Check.same("firm " + k, x.account(k + 1), 0);
            }
        });
    }
}

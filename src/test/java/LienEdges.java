/** The document's section 'Liens'. */
final class LienEdges {
    private static final String SECTION = "Liens";

    private LienEdges() {
    }

    static void all() {
        overdue();
        claims();
        priority();
        ranks();
        enoughLeft();
        notEnoughLeft();
        laterRanks();
    }

    private static void overdue() {
        Says.that(SECTION, "The overdue amount of a contract is the sum of the open amounts of its certificates"
                + " whose due day is before the present day.", () -> {
            ConstructionLedger x = Given.done("project 9;main 0 0 2;item 0 1 9;");
            Check.same("no certificate", x.overdue(0), 0);
            x.certify(0);
            x.pass(1);
            Check.same("due tomorrow", x.overdue(0), 0);
            x.pass(1);
            Check.same("due today", x.overdue(0), 0);
            x.pass(1);
            Check.same("due yesterday", x.overdue(0), 9);
            x.pay(0, 8);
            Check.same("1 is open", x.overdue(0), 1);
            x.pay(0, 1);
            Check.same("0 is open", x.overdue(0), 0);
            ConstructionLedger y = Texts.ledger("project 9;main 0 0 2;item 0 100 1;");
            for (int day = 0; day < 3; day++) {
                y.measure(0, 0, day + 1);
                y.certify(0);
                y.pass(1);
            }
            Check.same("one of three is overdue", y.overdue(0), 1);
            y.pass(1);
            Check.same("two of three", y.overdue(0), 2);
            y.pass(1);
            Check.same("all three", y.overdue(0), 3);
        });
    }

    private static void claims() {
        Says.that(SECTION, "A lien of a contract has an amount and the day on which it is filed;"
                + " there are at most 12 liens.", () -> {
            Check.same("the last", full().lienCount(), 12);
            Check.same("its place", full().priority(11), 11);
            Refused.state("one more", LienEdges::full, x -> x.fileLien(1));
            Refused.state("of another contract", LienEdges::full, x -> x.fileLien(2));
            ConstructionLedger x = full();
            x.undo();
            x.undo();
            Check.same("after undo", x.fileLien(2), 11);
        });
        Says.that(SECTION, "The claim of a lien is the smaller one of its amount and the sum of the open amounts of"
                + " all certificates of its contract; it is 0 if the lien has been withdrawn.", () -> {
            ConstructionLedger x = Given.liens(new int[] {1}, new int[] {10});
            Check.same("both the same", x.claim(0), 10);
            x.propose(1, 0, 1);
            x.approve(0);
            x.certify(1);
            Check.same("20 are open", x.claim(0), 10);
            Given.payMain(x, 30);
            x.pay(0, 9);
            Check.same("11 are open", x.claim(0), 10);
            x.pay(0, 1);
            Check.same("10 are open, of a later certificate", x.claim(0), 10);
            x.pay(1, 1);
            Check.same("9 are open", x.claim(0), 9);
            x.pay(1, 9);
            Check.same("0 are open", x.claim(0), 0);
            ConstructionLedger y = Given.liens(new int[] {1}, new int[] {10});
            y.withdrawLien(0);
            Check.same("withdrawn", y.claim(0), 0);
        });
    }

    /** 12 liens, all withdrawn. */
    private static ConstructionLedger full() {
        ConstructionLedger x = Given.liens(new int[] {1, 1}, new int[] {10, 10});
        x.withdrawLien(0);
        x.withdrawLien(1);
        for (int lien = 2; lien < 12; lien++) {
            x.fileLien(1);
            x.withdrawLien(lien);
        }
        return x;
    }

    private static void priority() {
        Says.that(SECTION, "Liens are ordered by the ranks of their contracts (0 first), then by the days on which"
                + " they were filed, then by their indexes; this is their priority.", () -> {
            ConstructionLedger x = Given.liens(new int[] {3, 2, 1, 0}, new int[] {5, 5, 5, 5});
            for (int k = 0; k < 4; k++) {
                Check.same("ranks 3 to 0, place " + k, x.priority(k), 3 - k);
            }
            ConstructionLedger y = Given.liens(new int[] {1, 1, 1}, new int[] {5, 5, 5});
            y.withdrawLien(0);
            y.fileLien(1);
            y.pass(1);
            y.withdrawLien(1);
            y.fileLien(2);
            int[] order = {0, 1, 2, 3, 4};
            for (int k = 0; k < 5; k++) {
                Check.same("same rank, place " + k, y.priority(k), order[k]);
            }
            rankBeforeDay();
        });
    }

    private static void rankBeforeDay() {
        ConstructionLedger y = Given.done("project 0;main 0 0 0;sub 0 0 0 0 1;sub 0 0 0 0 0;sub 0 0 0 0 1;"
                + "item 1 1 5;item 2 1 5;item 3 1 5;");
        for (int c = 1; c <= 3; c++) {
            y.certify(c);
        }
        y.pass(1);
        y.fileLien(3);
        y.pass(1);
        y.fileLien(1);
        y.fileLien(2);
        Check.same("rank 0, filed last", y.priority(0), 2);
        Check.same("rank 1, filed first", y.priority(1), 0);
        Check.same("rank 1, filed on the next day", y.priority(2), 1);
    }

    private static void ranks() {
        Says.that(SECTION, "To share a sum among the liens, the ranks are treated in increasing order.", () -> {
            ConstructionLedger x = Given.liens(new int[] {3, 2, 1, 0}, new int[] {5, 5, 5, 5});
            shares(x, 0, 0, 0, 0, 0);
            shares(x, 5, 0, 0, 0, 5);
            shares(x, 6, 0, 0, 1, 5);
            shares(x, 11, 0, 1, 5, 5);
            shares(x, 15, 0, 5, 5, 5);
            shares(x, 16, 1, 5, 5, 5);
            shares(x, 20, 5, 5, 5, 5);
        });
    }

    private static void enoughLeft() {
        Says.that(SECTION, "If what is left of the sum is at least the sum of the claims of the rank,"
                + " each lien of the rank gets its claim.", () -> {
            ConstructionLedger x = Given.liens(new int[] {1, 1}, new int[] {4, 6});
            shares(x, 10, 4, 6);
            shares(x, 11, 4, 6);
            shares(x, 99999999, 4, 6);
            shares(x, 9, 4, 5);
            x.withdrawLien(0);
            shares(x, 6, 0, 6);
            x.withdrawLien(1);
            shares(x, 0, 0, 0);
            shares(x, 99999999, 0, 0);
        });
    }

    private static void notEnoughLeft() {
        Says.that(SECTION, "Otherwise each lien of the rank gets claim * left / (sum of the claims of the rank), where"
                + " left is what is left before the rank is treated; then, as long as something is left, the liens of"
                + " the rank whose claim is greater than what they have got get 1 more each, in the order of their"
                + " priority, once.", () -> {
            shares(Given.liens(new int[] {1, 1}, new int[] {5, 5}), 8, 4, 4);
            ConstructionLedger x = Given.liens(new int[] {1, 1, 1}, new int[] {5, 5, 5});
            shares(x, 0, 0, 0, 0);
            shares(x, 1, 1, 0, 0);
            shares(x, 2, 1, 1, 0);
            shares(x, 3, 1, 1, 1);
            shares(x, 13, 5, 4, 4);
            shares(x, 14, 5, 5, 4);
            x.withdrawLien(0);
            shares(x, 1, 0, 1, 0);
            shares(x, 9, 0, 5, 4);
            ConstructionLedger y = Given.liens(new int[] {0, 1, 1}, new int[] {3, 1, 2});
            shares(y, 3, 3, 0, 0);
            shares(y, 4, 3, 1, 0);
            shares(y, 5, 3, 1, 1);
            shares(y, 6, 3, 1, 2);
            manyRests();
        });
    }

    /** 12 liens of one rank, 5 of them withdrawn: 7 claims of 2 leave rests up to 6. */
    private static void manyRests() {
        ConstructionLedger x = Given.liens(new int[] {1, 1, 1, 1, 1, 1, 1}, new int[] {2, 2, 2, 2, 2, 2, 2});
        for (int lien = 0; lien < 5; lien++) {
            x.withdrawLien(lien);
        }
        for (int contract = 1; contract <= 5; contract++) {
            x.fileLien(contract);
        }
        shares(x, 6, 0, 0, 0, 0, 0, 1, 1, 1, 1, 1, 1, 0);
        shares(x, 7, 0, 0, 0, 0, 0, 1, 1, 1, 1, 1, 1, 1);
        shares(x, 8, 0, 0, 0, 0, 0, 2, 1, 1, 1, 1, 1, 1);
        shares(x, 13, 0, 0, 0, 0, 0, 2, 2, 2, 2, 2, 2, 1);
        shares(x, 14, 0, 0, 0, 0, 0, 2, 2, 2, 2, 2, 2, 2);
    }

    private static void laterRanks() {
        Says.that(SECTION, "Later ranks get nothing then.", () -> {
            ConstructionLedger x = Given.liens(new int[] {0, 0, 1, 3}, new int[] {3, 3, 1, 1});
            shares(x, 5, 3, 2, 0, 0);
            shares(x, 6, 3, 3, 0, 0);
            shares(x, 7, 3, 3, 1, 0);
            shares(x, 8, 3, 3, 1, 1);
        });
    }

    private static void shares(ConstructionLedger x, int sum, long... want) {
        for (int i = 0; i < want.length; i++) {
            Check.same("share of lien " + i + " in " + sum, x.share(i, sum), want[i]);
        }
    }
}

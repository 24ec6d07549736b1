/** Ledgers to start from. */
final class Given {
    static final String HEAD = "project 7;main 1 2 3;";
    /** A project in the fewest bytes. */
    static final String LEAST = "project7;main0 0 0;";
    /** The same, as one call of append takes it. */
    static final String LEAST_20 = LEAST + " ";

    private Given() {
    }

    /** All work is done. */
    static ConstructionLedger done(String text) {
        ConstructionLedger x = Texts.ledger(text);
        for (int c = 0; c < x.contractCount(); c++) {
            for (int i = 0; i < x.itemCount(c); i++) {
                x.measure(c, i, 100);
            }
        }
        return x;
    }

    /** The item 0 of contract 0, after an approved change; 0 is none. */
    static ConstructionLedger changed(String statements, int first, int price, int change) {
        ConstructionLedger x = done("project 0;main 0 0 0;item 0 " + first + " " + price + ";" + statements);
        if (change != 0) {
            x.propose(0, 0, change);
            x.approve(0);
        }
        return x;
    }

    static ConstructionLedger atDay(String text, int day) {
        ConstructionLedger x = done(text);
        passTo(x, day);
        return x;
    }

    static void passTo(ConstructionLedger x, int day) {
        while (x.day() < day) {
            x.pass(Math.min(365, day - x.day()));
        }
    }

    /** 3 contracts with 1, 2 and 1 items, 3 variations, 3 certificates, 2 liens, a buffer in use. */
    static ConstructionLedger busy() {
        ConstructionLedger x = done("project 5000;main 10 5 10;sub 0 10 10 0 1;sub 1 5 5 3 2 linked;"
                + "threshold 20;rate price+excess;item 0 10 100;item 1 10 50;item 1 4 20;item 2 10 20;");
        x.measure(1, 1, 50);
        x.propose(1, 0, 5);
        x.propose(2, 0, -20);
        x.propose(0, 0, 1);
        x.approve(0);
        x.certify(1);
        x.certify(0);
        x.certify(2);
        x.pay(1, 400);
        x.nextStage(0);
        x.pass(1);
        x.fileLien(1);
        x.pass(3);
        x.fileLien(2);
        x.withdrawLien(1);
        Texts.load(x, "project 7,");
        Texts.append(x, Texts.bytesOf(LEAST_20));
        x.deposit(5);
        x.undo();
        return x;
    }

    /** Subs of the given ranks, each with a lien for the sum of its one certificate. */
    static ConstructionLedger liens(int[] ranks, int[] sums) {
        StringBuilder text = new StringBuilder("project 9999999;main 0 0 0;item 0 999 9999;");
        for (int rank : ranks) {
            text.append("sub 0 0 0 0 ").append(rank).append(';');
        }
        for (int i = 0; i < sums.length; i++) {
            text.append("item ").append(i + 1).append(" 1 ").append(sums[i]).append(';');
        }
        ConstructionLedger x = done(text.toString());
        for (int i = 1; i <= sums.length; i++) {
            x.certify(i);
        }
        x.pass(1);
        for (int i = 1; i <= sums.length; i++) {
            x.fileLien(i);
        }
        return x;
    }

    /** Money for the firm of contract 0, by a certificate that is paid at once. */
    static void payMain(ConstructionLedger x, int amount) {
        int certificate = x.certify(0);
        x.pay(certificate, amount);
    }
}

/** Promises 48 and 49: undo and the checksum. */
public final class UndoTest {
    private static final String TEXT = "project 1000;main 0 0 0;sub 0 0 0 1 0;item 0 10 10;item 1 5 10;";

    public static void main(String[] args) {
        eachChange();
        eightSteps();
        afterUndo();
        anotherWay();
        failures();
        loads();
        rates();
        promise49Checksum();
        Check.end("UndoTest");
    }

    /** Every changing method, one after the other, and back again. */
    private static void eachChange() {
        ConstructionLedger x = Texts.ledger(TEXT);
        Check.Call[] changes = {
            () -> x.measure(0, 0, 100), () -> x.measure(1, 0, 100), () -> x.propose(1, 0, 2),
            () -> x.approve(0), () -> x.certify(1), () -> x.certify(0), () -> x.nextStage(0),
            () -> x.pay(1, 30), () -> x.deposit(7), () -> x.pass(2), () -> x.fileLien(1),
            () -> x.withdrawLien(0), () -> x.settle(3), () -> Texts.load(x, TEXT),
        };
        for (int i = 0; i < changes.length; i++) {
            Check.Call change = changes[i];
            String before = Trace.state(x);
            change.run();
            Check.no("48 something changed", before.equals(Trace.state(x)));
            String after = Trace.state(x);
            x.undo();
            Check.yes("48 all is back: " + before, before.equals(Trace.state(x)));
            change.run();
            Check.yes("48 done again: " + after, after.equals(Trace.state(x)));
        }
    }

    private static void eightSteps() {
        ConstructionLedger x = new ConstructionLedger();
        Check.same("48 nothing", x.undo(), -1);
        Texts.load(x, TEXT);
        for (int i = 1; i <= 30; i++) {
            x.pass(1);
        }
        for (int left = 7; left >= 0; left--) {
            Check.same("48 left", x.undo(), left);
            Check.same("48 the latest first", x.day(), 22 + left);
        }
        Check.same("48 no more", x.undo(), -1);
        Check.same("48 nothing changes", x.day(), 22);
    }

    private static void afterUndo() {
        ConstructionLedger x = Texts.ledger(TEXT);
        x.pass(1);
        x.pass(2);
        Check.same("48 two left", x.undo(), 2);
        x.pass(5);
        Check.same("48 another way", x.day(), 6);
        Check.same("48 of it", x.undo(), 2);
        Check.same("48 day", x.day(), 1);
        Check.same("48 before", x.undo(), 1);
        Check.same("48 day at first", x.day(), 0);
    }

    /** What has been undone leaves nothing behind, however the ledger keeps its states. */
    private static void anotherWay() {
        ConstructionLedger x = Texts.ledger(TEXT);
        x.measure(0, 0, 100);
        x.certify(0);
        x.pass(1);
        x.propose(0, 0, 2);
        x.approve(0);
        x.fileLien(0);
        x.withdrawLien(0);
        for (int i = 0; i < 4; i++) {
            x.undo();
        }
        for (int shift = 0; shift < 4; shift++) {
            x.deposit(1);
            x.propose(0, 0, 2);
            Check.no("48 not approved", x.isApproved(0));
            Check.same("48 quantity", x.quantity(0, 0), 10);
            x.fileLien(0);
            Check.same("48 not withdrawn", x.claim(0), 100);
            x.undo();
            x.undo();
        }
        x.undo();
        x.undo();
        x.undo();
        Check.same("48 back to the certificate", x.certified(0), 100);
    }

    private static void failures() {
        ConstructionLedger x = Texts.ledger(TEXT);
        Check.noArgument("43", () -> x.deposit(0));
        Check.noState("41", () -> x.nextStage(0));
        Texts.load(x, "project");
        x.settleDays(firstCertificate(x), 5);
        Check.same("48 failures and queries do not count", x.undo(), 2);
        ConstructionLedger y = Texts.ledger(TEXT);
        y.measure(0, 0, 0);
        Check.same("48 a change that changes nothing counts", y.undo(), 1);
        y.settle(1);
        Check.same("48 so does a settlement without payments", y.undo(), 1);
    }

    private static int firstCertificate(ConstructionLedger x) {
        x.measure(0, 0, 50);
        return x.certify(0);
    }

    private static void loads() {
        ConstructionLedger x = Texts.ledger(TEXT);
        x.deposit(5);
        String before = Trace.state(x);
        Texts.load(x, "project 3;main 1 1 1;rate 5;");
        x.append(1, 2, 3, 4, 5);
        Check.same("48 back over a load", x.undo(), 2);
        Check.yes("48 the old project", before.equals(Trace.state(x)));
        Check.same("48 the buffer stays", x.append(1, 2, 3, 4, 5), 40);
        x.undo();
        Check.same("48 back before the first load", x.undo(), 0);
        Check.same("6 no contracts", x.contractCount(), 0);
        Check.same("21 owner", x.account(0), 0);
        Check.noIndex("21 no firm", () -> x.account(1));
        Check.noState("44 no project", () -> x.pass(1));
        Check.same("49 of nothing", x.checksum(), 0);
        Check.same("2 the buffer stays", x.append(1, 2, 3, 4, 5), 60);
    }

    /** Each project keeps its own rate and threshold, whatever is read behind it. */
    private static void rates() {
        ConstructionLedger x = new ConstructionLedger();
        for (int k = 1; k <= 8; k++) {
            Texts.load(x, "project 0;main 0 0 0;item 0 100 1;threshold " + k + ";rate price*" + k + "+excess;");
            x.propose(0, 0, 10);
            x.approve(0);
            x.undo();
            x.undo();
        }
        Check.same("3 an error behind the rate", Texts.load(x, "project 0;main 0 0 0;threshold 99;rate 99 9;"), -2);
        for (int k = 8; k >= 2; k--) {
            Check.same("48 the rate of text " + k, x.specialRate(0, 0), k);
            x.propose(0, 0, 10);
            x.approve(0);
            Check.same("48 the threshold of text " + k, x.specialRate(0, 0), 10);
            Check.same("48 the sum of text " + k, x.presentSum(0), 100 + k + (10 - k) * 10);
            x.undo();
            x.undo();
            Check.same("48 left", x.undo(), k - 3);
        }
    }

    private static void promise49Checksum() {
        ConstructionLedger x = Texts.ledger(TEXT);
        // day, owner; firm, stage, gross and certified of both contracts; variations.
        Check.same("49 at first", x.checksum(), fold(0, 1000, 0, 0, 0, 0, 0, 0, 0, 0, 0));
        x.measure(0, 0, 100);
        x.measure(1, 0, 50);
        x.nextStage(0);
        x.propose(0, 0, 4);
        x.certify(1);
        x.certify(0);
        x.pay(1, 60);
        x.pass(2);
        x.fileLien(1);
        x.propose(0, 0, 5);
        x.pay(0, 5);
        Check.same("49 all parts", x.checksum(),
                fold(2, 940, 55, 1, 100, 100, 5, 0, 25, 25, 20, 40, 20, 2));
        ConstructionLedger y = Texts.ledger("project 9999999;main 0 0 0;" + "sub 0 0 0 0 0;".repeat(7));
        long[] numbers = new long[35];
        numbers[0] = 365;
        numbers[1] = 9999999;
        y.pass(365);
        Check.same("49 wraps around", y.checksum(), fold(numbers));
    }

    private static long fold(long... numbers) {
        long sum = 0;
        for (long n : numbers) {
            sum = 31 * sum + n;
        }
        return sum;
    }
}

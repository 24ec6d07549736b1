import java.math.BigInteger;
import java.util.function.Supplier;

/** The document's section 'Changes', and the promises of undo and checksum. */
final class ChangeEdges {
    private static final String SECTION = "Changes";
    private static final String ONE = "project 100;main 0 0 0;item 0 1 60;";

    private interface Call {
        void run(ConstructionLedger x);
    }

    private ChangeEdges() {
    }

    static void all() {
        changingMethods();
        noData();
        eight();
        noProject();
        firstException();
        nothingChanges();
        undo();
        checksum();
    }

    private static void changingMethods() {
        Says.that(SECTION, "The changing methods are load (when it succeeds), measure, propose, approve, certify,"
                + " nextStage, pay, deposit, pass, settle, fileLien and withdrawLien.", () -> {
            Call[] changes = {
                x -> x.load(20), x -> x.measure(2, 0, 5), x -> x.propose(0, 0, 1), x -> x.approve(2),
                x -> x.certify(0), x -> x.nextStage(2), x -> x.pay(1, 1), x -> x.deposit(1),
                x -> x.pass(1), x -> x.settle(1), x -> x.fileLien(2), x -> x.withdrawLien(0),
            };
            for (int i = 0; i < changes.length; i++) {
                ConstructionLedger x = Given.busy();
                String before = Trace.state(x);
                changes[i].run(x);
                Check.no("change " + i + " is seen", before.equals(Trace.state(x)));
                Check.same("change " + i + " is undone", x.undo(), 7);
                Check.yes("change " + i + " is gone", before.equals(Trace.state(x)));
            }
            notChanging();
        });
    }

    private static void notChanging() {
        Call[] others = {
            x -> x.append(1, 2, 3, 4, 5), x -> Texts.load(x, "project 7,"), x -> x.settleDays(0, 200),
            x -> x.share(0, 99999999), x -> x.dueBetween(0, 99), x -> x.checksum(), x -> x.account(0),
            x -> x.variationWorth(0), x -> x.errorOffset(),
        };
        for (int i = 0; i < others.length; i++) {
            ConstructionLedger x = Given.done(ONE);
            x.certify(0);
            x.propose(0, 0, 1);
            x.pass(1);
            x.fileLien(0);
            String before = Trace.state(x);
            others[i].run(x);
            Check.yes("call " + i + " changes nothing", before.equals(Trace.state(x)));
            Check.same("call " + i + " is no change", x.undo(), 5);
        }
    }

    private static void noData() {
        Says.that(SECTION, "A call counts as a change also if it changes no data.", () -> {
            ConstructionLedger x = Texts.ledger(ONE);
            x.measure(0, 0, 0);
            Check.same("the same progress", x.undo(), 1);
            Texts.load(x, ONE);
            Check.same("the same project", x.undo(), 1);
            x.settle(1);
            Check.same("a settlement without payments", x.undo(), 1);
            Check.same("the first load", x.undo(), 0);
        });
    }

    private static void eight() {
        Says.that(SECTION, "The latest 8 changes that have not been undone can be undone, the latest one first.", () -> {
            for (int changes = 1; changes <= 19; changes++) {
                ConstructionLedger x = Texts.ledger(ONE);
                for (int i = 1; i < changes; i++) {
                    x.pass(i);
                }
                int can = Math.min(8, changes);
                for (int left = can - 1; left >= 0; left--) {
                    Check.same("left of " + changes, x.undo(), left);
                    int done = changes - can + left;
                    Check.same("day after " + done + " changes", x.day(), done < 1 ? 0 : (done - 1) * done / 2);
                    Check.same("contracts after " + done + " changes", x.contractCount(), done < 1 ? 0 : 1);
                }
                Check.same("no more of " + changes, x.undo(), -1);
            }
            mixed();
        });
    }

    /** Changes after undone ones: those that were undone count no more. */
    private static void mixed() {
        ConstructionLedger x = Texts.ledger(ONE);
        for (int i = 0; i < 12; i++) {
            x.pass(1);
        }
        for (int i = 0; i < 8; i++) {
            x.undo();
        }
        Check.same("all eight undone", x.day(), 4);
        x.pass(100);
        Check.same("only the new one", x.undo(), 0);
        Check.same("without it", x.undo(), -1);
        for (int i = 0; i < 9; i++) {
            x.pass(100);
        }
        Check.same("eight new ones", x.undo(), 7);
        x.undo();
        x.undo();
        x.deposit(1);
        Check.same("five old ones and a new one", x.undo(), 5);
        Check.same("day", x.day(), 604);
        Check.same("owner", x.account(0), 100);
    }

    private static void noProject() {
        Says.that(SECTION, "Before the first successful load there is no project:"
                + " there are no contracts, and the owner's account is 0.", () -> {
            empty(new ConstructionLedger());
            ConstructionLedger failed = new ConstructionLedger();
            Texts.load(failed, "project 9999;main 1 2 3;sub 0 1 1 1 1;item 0 1 1;.");
            empty(failed);
            ConstructionLedger undone = Given.done(ONE);
            undone.undo();
            undone.undo();
            empty(undone);
        });
    }

    private static void empty(ConstructionLedger x) {
        Check.same("contracts", x.contractCount(), 0);
        Check.same("certificates", x.certificateCount(), 0);
        Check.same("variations", x.variationCount(), 0);
        Check.same("liens", x.lienCount(), 0);
        Check.same("owner", x.account(0), 0);
        Check.noIndex("firm", () -> x.account(1));
        Check.noIndex("contract", () -> x.firstSum(0));
        Check.noState("deposit", () -> x.deposit(1));
        Check.noState("pass", () -> x.pass(1));
        Check.noState("settle", () -> x.settle(1));
        Check.same("due", x.dueBetween(Integer.MIN_VALUE, Integer.MAX_VALUE), 0);
        Check.same("checksum", x.checksum(), 0);
        Check.same("undo", x.undo(), -1);
    }

    private static void firstException() {
        Says.that(SECTION, "If several exceptions apply to a call,"
                + " the one that comes first in the method's throws list is thrown.", () -> {
            Refused.index("settleDays: certificate, limit", Given::busy, x -> x.settleDays(3, 201));
            Refused.index("share: lien, sum", Given::busy, x -> x.share(2, -1));
            Refused.index("measure: contract, progress", Given::busy, x -> x.measure(3, 0, 101));
            Refused.index("measure: item, progress", Given::busy, x -> x.measure(0, 1, -1));
            Refused.index("pay: certificate, amount", Given::busy, x -> x.pay(3, 0));
            Refused.argument("pay: amount, blocked", Given::busy, x -> x.pay(2, 191));
            Refused.argument("deposit: amount, no project", ConstructionLedger::new, x -> x.deposit(0));
            Refused.argument("pass: days, no project", ConstructionLedger::new, x -> x.pass(366));
            Refused.argument("settle: days, no project", ConstructionLedger::new, x -> x.settle(101));
            fullOnes();
            lastDay();
        });
    }

    private static void fullOnes() {
        Supplier<ConstructionLedger> variations = () -> {
            ConstructionLedger x = Texts.ledger(ONE);
            for (int i = 0; i < 20; i++) {
                x.propose(0, 0, 1);
            }
            return x;
        };
        Refused.index("propose: contract, change, 20 variations", variations, x -> x.propose(1, 0, 0));
        Refused.index("propose: item, change, 20 variations", variations, x -> x.propose(0, 1, 0));
        Refused.index("propose: item, 20 variations", variations, x -> x.propose(0, 1, 1));
        Refused.argument("propose: change, 20 variations", variations, x -> x.propose(0, 0, 1000));
        Supplier<ConstructionLedger> certificates = () -> {
            ConstructionLedger x = Texts.ledger("project 0;main 0 0 0;item 0 100 1;");
            for (int i = 1; i <= 40; i++) {
                x.measure(0, 0, i);
                x.certify(0);
            }
            return x;
        };
        Refused.index("certify: contract, 40 certificates", certificates, x -> x.certify(1));
        Supplier<ConstructionLedger> liens = () -> {
            ConstructionLedger x = Given.liens(new int[] {1}, new int[] {5});
            for (int i = 0; i < 11; i++) {
                x.withdrawLien(i);
                x.fileLien(1);
            }
            return x;
        };
        Refused.index("fileLien: contract, 12 liens", liens, x -> x.fileLien(2));
    }

    private static void lastDay() {
        Supplier<ConstructionLedger> last = () -> Given.atDay(ONE, 100000);
        Refused.argument("pass: days, last day", last, x -> x.pass(366));
        Refused.argument("settle: days, last day", last, x -> x.settle(101));
        Refused.argument("deposit: amount, full account", ChangeEdges::fullAccount, x -> x.deposit(10000000));
        Supplier<ConstructionLedger> poor = () -> {
            ConstructionLedger x = Given.done("project 0;main 0 0 0;item 0 1 60;");
            x.certify(0);
            return x;
        };
        Refused.argument("pay: amount, account", poor, x -> x.pay(0, 61));
        Refused.argument("pay: amount 0, account", poor, x -> x.pay(0, 0));
        Refused.state("pay: account", poor, x -> x.pay(0, 60));
    }

    /** The owner's account holds 999999999. */
    static ConstructionLedger fullAccount() {
        ConstructionLedger x = Texts.ledger("project 9999999;main 0 0 0;");
        for (int i = 0; i < 99; i++) {
            x.deposit(9999999);
        }
        x.deposit(99);
        return x;
    }

    private static void nothingChanges() {
        Says.that(SECTION, "A method that throws an exception changes nothing.", () -> {
            Refused.argument("load", Given::busy, x -> x.load(21));
            Refused.argument("measure", Given::busy, x -> x.measure(0, 0, 101));
            Refused.argument("propose", Given::busy, x -> x.propose(0, 0, 0));
            Refused.state("approve", Given::busy, x -> x.approve(1));
            Refused.state("certify", Given::busy, x -> x.certify(1));
            Refused.state("nextStage", Given::busy, x -> x.nextStage(1));
            Refused.state("pay", Given::busy, x -> x.pay(2, 1));
            Refused.argument("deposit", Given::busy, x -> x.deposit(0));
            Refused.argument("pass", Given::busy, x -> x.pass(0));
            Refused.argument("settle", Given::busy, x -> x.settle(0));
            Refused.state("fileLien", Given::busy, x -> x.fileLien(1));
            Refused.state("withdrawLien", Given::busy, x -> x.withdrawLien(1));
            Refused.argument("settleDays", Given::busy, x -> x.settleDays(0, 201));
            Refused.argument("share", Given::busy, x -> x.share(0, 100000000));
        });
    }

    private static void undo() {
        Says.that(48, "Undoes the latest change that has not been undone.", () -> {
            ConstructionLedger x = Texts.ledger(ONE);
            x.deposit(1);
            x.deposit(2);
            x.undo();
            x.deposit(4);
            x.undo();
            Check.same("the first stays", x.account(0), 101);
            x.undo();
            Check.same("then it goes too", x.account(0), 100);
        });
        Says.that(48, "The input buffer and the error offset are not affected.", () -> {
            ConstructionLedger x = Texts.ledger(ONE);
            Texts.load(x, "project 7,");
            Texts.append(x, Texts.bytesOf(Given.LEAST_20));
            x.undo();
            Check.same("error offset", x.errorOffset(), 9);
            Check.same("buffer", x.load(20), 1);
            x.undo();
            Check.same("the buffer stays empty", x.append(0, 0, 0, 0, 0), 20);
            Check.same("error offset without an error", x.errorOffset(), -1);
        });
        Says.that(48, "Returns the number of changes that can still be undone;"
                + " -1 if there was none to undo, and nothing changes then.", () -> {
            Check.same("none ever", new ConstructionLedger().undo(), -1);
            ConstructionLedger x = Texts.ledger(Given.LEAST);
            Check.same("the only one", x.undo(), 0);
            Check.same("none left", x.undo(), -1);
            ConstructionLedger y = Texts.ledger(Given.LEAST);
            for (int i = 0; i < 8; i++) {
                y.pass(1);
            }
            Check.same("8 of 9", y.undo(), 7);
            for (int i = 0; i < 7; i++) {
                y.undo();
            }
            String before = Trace.state(y);
            Check.same("no ninth", y.undo(), -1);
            Check.yes("nothing changes", before.equals(Trace.state(y)));
            y.pass(3);
            Check.same("a new one", y.undo(), 0);
        });
    }

    private static void checksum() {
        Says.that(49, "It starts at 0; each number n in the following order replaces it by 31 * checksum + n,"
                + " wrapping around on overflow of a long:", () -> {
            Check.same("all numbers are 0", Texts.ledger("project 0;main 0 0 0;").checksum(), 0);
            ConstructionLedger x = Texts.ledger("project 9999999;main 0 0 0;" + "sub 0 0 0 0 0;".repeat(7));
            x.pass(365);
            long[] numbers = new long[35];
            numbers[0] = 365;
            numbers[1] = 9999999;
            Check.same("wraps around", x.checksum(), wrapped(numbers));
            Check.no("an overflow indeed", fits(numbers));
            ConstructionLedger y = Texts.ledger("project 7;main 0 0 0;sub 0 0 0 0 0;");
            y.pass(365);
            long[] few = new long[11];
            few[0] = 365;
            few[1] = 7;
            Check.yes("no overflow here", fits(few));
            Check.same("does not wrap", y.checksum(), wrapped(few));
        });
        Says.that(49, "day(); the owner's account; for each contract the account of its firm, its stage, its gross"
                + " value and its certified value; for each certificate its open amount; for each lien its claim;"
                + " the number of variations.", () -> {
            Check.same("without a project", new ConstructionLedger().checksum(), 0);
            ConstructionLedger x = Given.done(ONE);
            Check.same("one contract only", x.checksum(), wrapped(0, 100, 0, 0, 60, 0, 0));
            x.certify(0);
            Check.same("one certificate", x.checksum(), wrapped(0, 100, 0, 0, 60, 60, 60, 0));
            x.pass(1);
            x.fileLien(0);
            Check.same("one lien", x.checksum(), wrapped(1, 100, 0, 0, 60, 60, 60, 60, 0));
            x.pay(0, 50);
            x.nextStage(0);
            x.propose(0, 0, 1);
            Check.same("all of them", x.checksum(), wrapped(1, 50, 50, 1, 60, 60, 10, 10, 1));
        });
    }

    private static BigInteger folded(long... numbers) {
        BigInteger sum = BigInteger.ZERO;
        for (long n : numbers) {
            sum = sum.multiply(BigInteger.valueOf(31)).add(BigInteger.valueOf(n));
        }
        return sum;
    }

    private static long wrapped(long... numbers) {
        return folded(numbers).longValue();
    }

    private static boolean fits(long... numbers) {
        return folded(numbers).bitLength() < 64;
    }
}

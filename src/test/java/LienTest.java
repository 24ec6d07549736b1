/** Promises 33 to 36, 46 and 47: filing, claims, priority, sharing and withdrawing. */
public final class LienTest {
    public static void main(String[] args) {
        promise46FileLien();
        promise46Full();
        promise34Claim();
        promise34SecondLien();
        promise47WithdrawLien();
        promise35Priority();
        promise35MainContract();
        promise36OneRank();
        promise36Ranks();
        promise36Remainders();
        promise36Large();
        Check.end("LienTest");
    }

    /** Contract 0 with the given ranks below it; each sub has one certificate, due on day 0. */
    private static ConstructionLedger ledger(int[] ranks, int[] sums) {
        StringBuilder text = new StringBuilder("project 9999999;main 0 0 0;item 0 999 9999;");
        for (int rank : ranks) {
            text.append("sub 0 0 0 0 ").append(rank).append(';');
        }
        for (int i = 0; i < sums.length; i++) {
            text.append("item ").append(i + 1).append(" 1 ").append(sums[i]).append(';');
        }
        ConstructionLedger x = Texts.ledger(text.toString());
        for (int i = 1; i <= sums.length; i++) {
            x.measure(i, 0, 100);
            x.certify(i);
        }
        return x;
    }

    private static ConstructionLedger filed(int[] ranks, int[] sums) {
        ConstructionLedger x = ledger(ranks, sums);
        x.pass(1);
        for (int i = 1; i <= sums.length; i++) {
            x.fileLien(i);
        }
        return x;
    }

    private static void promise46FileLien() {
        ConstructionLedger x = ledger(new int[] {1, 1}, new int[] {30, 40});
        Check.same("33 none", x.lienCount(), 0);
        Check.noState("46 due today only", () -> x.fileLien(1));
        x.pass(1);
        Check.noState("46 no certificate", () -> x.fileLien(0));
        Check.same("46 first", x.fileLien(2), 0);
        Check.noState("46 has a claim", () -> x.fileLien(2));
        Check.same("46 another contract", x.fileLien(1), 1);
        Check.same("33 two", x.lienCount(), 2);
        Check.noIndex("46 below", () -> x.fileLien(-1));
        Check.noIndex("46 above", () -> x.fileLien(3));
        x.withdrawLien(0);
        Check.same("46 again after withdrawing", x.fileLien(2), 2);
        Check.same("33 withdrawn included", x.lienCount(), 3);
        x.measure(0, 0, 1);
        x.certify(0);
        x.pay(2, 69);
        x.pay(0, 29);
        Check.noState("46 a claim of 1 is enough", () -> x.fileLien(1));
    }

    private static void promise46Full() {
        ConstructionLedger x = filed(new int[] {1}, new int[] {30});
        for (int i = 1; i < 12; i++) {
            x.withdrawLien(i - 1);
            Check.same("46 index", x.fileLien(1), i);
        }
        Check.same("36 full", x.share(11, 7), 7);
        Check.same("36 full, withdrawn", x.share(10, 7), 0);
        Check.same("35 full", x.priority(11), 11);
        x.withdrawLien(11);
        Check.noState("46 full", () -> x.fileLien(1));
        Check.noIndex("46 index first", () -> x.fileLien(2));
        Check.same("33 full", x.lienCount(), 12);
    }

    private static void promise34Claim() {
        ConstructionLedger x = filed(new int[] {1}, new int[] {30});
        Check.same("34 at first", x.claim(0), 30);
        x.propose(1, 0, 1);
        x.approve(0);
        x.certify(1);
        Check.same("34 not more than its amount", x.claim(0), 30);
        x.measure(0, 0, 1);
        x.certify(0);
        x.pay(2, 60);
        x.pay(0, 20);
        Check.same("34 all certificates count", x.claim(0), 30);
        x.pay(0, 10);
        x.pay(1, 7);
        Check.same("34 not more than is open", x.claim(0), 23);
        x.withdrawLien(0);
        Check.same("34 withdrawn", x.claim(0), 0);
        Check.noIndex("34 below", () -> x.claim(-1));
        Check.noIndex("34 above", () -> x.claim(1));
    }

    private static void promise34SecondLien() {
        // The amount of a lien is what was overdue when it was filed, not what is open.
        ConstructionLedger x = ledger(new int[] {1}, new int[] {30});
        x.propose(1, 0, 1);
        x.approve(0);
        x.pass(1);
        x.certify(1);
        x.fileLien(1);
        Check.same("34 overdue only", x.claim(0), 30);
        x.measure(0, 0, 1);
        x.certify(0);
        x.pay(2, 60);
        x.pay(0, 30);
        x.pay(1, 30);
        Check.same("34 paid", x.claim(0), 0);
        x.propose(1, 0, 1);
        x.approve(1);
        x.certify(1);
        Check.same("34 lives again", x.claim(0), 30);
        x.pass(1);
        Check.noState("46 claim of the old lien", () -> x.fileLien(1));
    }

    private static void promise47WithdrawLien() {
        ConstructionLedger x = filed(new int[] {1, 1}, new int[] {30, 40});
        Check.same("47 claim before", x.withdrawLien(1), 40);
        Check.noState("47 twice", () -> x.withdrawLien(1));
        Check.same("34 the other", x.claim(0), 30);
        x.measure(0, 0, 1);
        x.certify(0);
        x.pay(2, 30);
        x.pay(0, 30);
        Check.same("47 a claim of 0", x.withdrawLien(0), 0);
        Check.noState("47 twice, too", () -> x.withdrawLien(0));
        Check.noIndex("47 below", () -> x.withdrawLien(-1));
        Check.noIndex("47 above", () -> x.withdrawLien(2));
    }

    private static void promise35Priority() {
        ConstructionLedger x = ledger(new int[] {3, 1, 0, 1, 2}, new int[] {10, 20, 30, 40, 50});
        Check.noIndex("35 none", () -> x.priority(0));
        x.pass(1);
        for (int contract : new int[] {1, 4, 5}) {
            x.fileLien(contract);
        }
        x.pass(1);
        x.fileLien(2);
        x.fileLien(3);
        x.withdrawLien(4);
        x.fileLien(3);
        int[] order = {4, 5, 1, 3, 2, 0};
        for (int k = 0; k < order.length; k++) {
            Check.same("35 place " + k, x.priority(k), order[k]);
        }
        Check.noIndex("35 below", () -> x.priority(-1));
        Check.noIndex("35 above", () -> x.priority(6));
    }

    private static void promise35MainContract() {
        ConstructionLedger x = ledger(new int[] {0, 1}, new int[] {30, 40});
        x.measure(0, 0, 1);
        x.certify(0);
        x.pass(1);
        x.fileLien(2);
        x.fileLien(0);
        x.fileLien(1);
        Check.same("35 main has rank 0", x.priority(0), 1);
        Check.same("35 so has the first sub", x.priority(1), 2);
        Check.same("35 then rank 1", x.priority(2), 0);
    }

    private static void promise36OneRank() {
        ConstructionLedger x = filed(new int[] {2, 2}, new int[] {30, 60});
        shares(x, 0, 0, 0);
        shares(x, 1, 1, 0);
        shares(x, 2, 1, 1);
        shares(x, 45, 15, 30);
        shares(x, 89, 30, 59);
        shares(x, 90, 30, 60);
        shares(x, 91, 30, 60);
        shares(x, 99999999, 30, 60);
        Check.noArgument("36 negative", () -> x.share(0, -1));
        Check.noArgument("36 above", () -> x.share(0, 100000000));
        Check.noIndex("36 below", () -> x.share(-1, 5));
        Check.noIndex("36 index first", () -> x.share(2, -1));
        long before = x.checksum();
        x.share(0, 90);
        Check.same("36 nothing is paid", x.checksum(), before);
        x.withdrawLien(0);
        shares(x, 45, 0, 45);
        shares(x, 90, 0, 60);
    }

    private static void promise36Ranks() {
        ConstructionLedger x = filed(new int[] {3, 0, 1, 1}, new int[] {10, 20, 5, 5});
        shares(x, 19, 0, 19, 0, 0);
        shares(x, 20, 0, 20, 0, 0);
        shares(x, 21, 0, 20, 1, 0);
        shares(x, 29, 0, 20, 5, 4);
        shares(x, 30, 0, 20, 5, 5);
        shares(x, 31, 1, 20, 5, 5);
        shares(x, 40, 10, 20, 5, 5);
        shares(x, 41, 10, 20, 5, 5);
        x.withdrawLien(1);
        shares(x, 9, 0, 0, 5, 4);
        shares(x, 11, 1, 0, 5, 5);
    }

    private static void promise36Remainders() {
        ConstructionLedger x = filed(new int[] {1, 1, 1}, new int[] {1, 1, 1});
        shares(x, 1, 1, 0, 0);
        shares(x, 2, 1, 1, 0);
        x.withdrawLien(0);
        shares(x, 1, 0, 1, 0);
        // The lien that is filed again comes last in its rank.
        x.fileLien(1);
        shares(x, 2, 0, 1, 1, 0);
        ConstructionLedger y = filed(new int[] {1, 1, 1, 1}, new int[] {7, 1, 9, 3});
        shares(y, 11, 4, 1, 5, 1);
    }

    private static void promise36Large() {
        StringBuilder text = new StringBuilder("project 0;main 0 0 0;sub 0 0 0 0 1;sub 0 0 0 0 1;threshold 0;rate 9999*10+9;");
        text.append("item 1 999 9999;item 2 999 9999;");
        ConstructionLedger x = Texts.ledger(text.toString());
        for (int i = 0; i < 20; i++) {
            x.propose(1 + i % 2, 0, 999);
            x.approve(i);
        }
        for (int i = 1; i <= 2; i++) {
            x.measure(i, 0, i == 1 ? 100 : 99);
            x.certify(i);
        }
        x.pass(1);
        x.fileLien(1);
        x.fileLien(2);
        long first = 999L * 9999 + 9990L * 99999;
        long second = first * 99 / 100;
        Check.same("34 large", x.claim(0), first);
        Check.same("34 large, second", x.claim(1), second);
        long part = first * 99999999 / (first + second);
        Check.same("36 large", x.share(0, 99999999), part + 1);
        Check.same("36 large, second", x.share(1, 99999999), 99999999 - part - 1);
    }

    private static void shares(ConstructionLedger x, int sum, long... want) {
        for (int i = 0; i < want.length; i++) {
            Check.same("36 share of lien " + i + " in " + sum, x.share(i, sum), want[i]);
        }
    }
}

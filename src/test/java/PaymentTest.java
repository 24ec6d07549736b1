/** Promises 16 to 18, 21 to 29, 40, 42 and 43 to 45: certificates, accounts, days and settlement. */
public final class PaymentTest {
    // A chain of three firms; the second subcontract is linked.
    private static final String CHAIN = "project 1000;main 0 0 10;sub 0 0 0 5 0;sub 1 0 0 3 0 linked;"
            + "item 0 10 100;item 1 10 50;item 2 10 20;";

    public static void main(String[] args) {
        promises16And40Certify();
        promise40Full();
        promises22To26Certificates();
        promise27Blocked();
        promise27FirstCertificate();
        promise28DueBetween();
        promise29SettleDays();
        promise29Chain();
        promise42Pay();
        promises17And18Unpaid();
        promise21Accounts();
        promise43Deposit();
        promise44Pass();
        promise45Settle();
        promise45Order();
        promise45Quiet();
        promise45NextDay();
        promise45Blocked();
        lastDay();
        Check.end("PaymentTest");
    }

    private static ConstructionLedger chain() {
        ConstructionLedger x = Texts.ledger(CHAIN);
        for (int i = 0; i < 3; i++) {
            x.measure(i, 0, 100);
        }
        return x;
    }

    private static void promises16And40Certify() {
        ConstructionLedger x = Texts.ledger("project 0;main 10 10 30;item 0 10 33;sub 0 0 0 0 0;");
        Check.noState("40 nothing done", () -> x.certify(0));
        Check.noState("40 no items", () -> x.certify(1));
        Check.noIndex("40 below", () -> x.certify(-1));
        Check.noIndex("40 above", () -> x.certify(2));
        x.measure(0, 0, 50);
        Check.same("16 none", x.certified(0), 0);
        Check.same("40 first", x.certify(0), 0);
        Check.same("24 net", x.amount(0), 149);
        Check.same("16 first", x.certified(0), 149);
        Check.noState("40 nothing new", () -> x.certify(0));
        x.measure(0, 0, 40);
        Check.noState("40 less than before", () -> x.certify(0));
        x.measure(0, 0, 100);
        Check.same("40 second", x.certify(0), 1);
        Check.same("24 the rest", x.amount(1), 148);
        Check.same("16 both", x.certified(0), 297);
        x.nextStage(0);
        x.certify(0);
        Check.same("24 half the retention", x.amount(2), 17);
        x.nextStage(0);
        x.certify(0);
        Check.same("24 the other half", x.amount(3), 16);
        Check.same("16 all", x.certified(0), 330);
        Check.same("16 the other", x.certified(1), 0);
        Check.noIndex("16 below", () -> x.certified(-1));
        Check.noIndex("16 above", () -> x.certified(2));
    }

    private static void promise40Full() {
        ConstructionLedger x = Texts.ledger("project 0;main 0 0 0;item 0 100 1;");
        for (int i = 0; i < 40; i++) {
            x.measure(0, 0, i + 1);
            Check.same("40 index", x.certify(0), i);
        }
        x.measure(0, 0, 100);
        Check.noState("40 full", () -> x.certify(0));
        Check.noIndex("40 index first", () -> x.certify(1));
        Check.same("22 full", x.certificateCount(), 40);
        Check.same("16 full", x.certified(0), 40);
        x.deposit(40);
        Check.same("45 all at once", x.settle(1), 40);
    }

    private static void promises22To26Certificates() {
        ConstructionLedger x = chain();
        Check.same("22 none", x.certificateCount(), 0);
        Check.noIndex("23 none", () -> x.certificateContract(0));
        x.certify(2);
        x.pass(4);
        x.certify(0);
        Check.same("22 two", x.certificateCount(), 2);
        Check.same("23 first", x.certificateContract(0), 2);
        Check.same("23 second", x.certificateContract(1), 0);
        Check.same("24 first", x.amount(0), 200);
        Check.same("24 second", x.amount(1), 1000);
        Check.same("26 first", x.dueDay(0), 3);
        Check.same("26 second", x.dueDay(1), 14);
        Check.same("25 at first", x.openAmount(1), 1000);
        x.pay(1, 1);
        Check.same("25 paid a part", x.openAmount(1), 999);
        Check.same("24 stays", x.amount(1), 1000);
        for (int certificate : new int[] {Integer.MIN_VALUE, -1, 2, 40, Integer.MAX_VALUE}) {
            Check.noIndex("23", () -> x.certificateContract(certificate));
            Check.noIndex("24", () -> x.amount(certificate));
            Check.noIndex("25", () -> x.openAmount(certificate));
            Check.noIndex("26", () -> x.dueDay(certificate));
            Check.noIndex("27", () -> x.isBlocked(certificate));
            Check.noIndex("29", () -> x.settleDays(certificate, 201));
            Check.noIndex("42", () -> x.pay(certificate, 0));
        }
    }

    private static void promise27Blocked() {
        ConstructionLedger x = chain();
        x.certify(2);
        Check.no("27 parent has none", x.isBlocked(0));
        x.pass(1);
        x.certify(1);
        Check.no("27 issued later", x.isBlocked(0));
        Check.no("27 not linked", x.isBlocked(1));
        x.propose(2, 0, 1);
        x.approve(0);
        x.certify(2);
        Check.yes("27 issued on the same day", x.isBlocked(2));
        x.propose(2, 0, 1);
        x.approve(1);
        x.pass(1);
        x.certify(2);
        Check.yes("27 issued earlier", x.isBlocked(3));
        x.certify(0);
        x.pay(4, 1000);
        x.pay(1, 499);
        Check.yes("27 not wholly paid", x.isBlocked(3));
        Check.no("27 main", x.isBlocked(4));
        x.pay(1, 1);
        Check.no("27 paid", x.isBlocked(3));
        x.pay(3, 20);
        x.propose(1, 0, 1);
        x.approve(2);
        x.certify(1);
        Check.yes("27 also when it is paid itself", x.isBlocked(3));
        Check.no("27 earlier than that", x.isBlocked(2));
    }

    private static void promise27FirstCertificate() {
        ConstructionLedger x = chain();
        x.certify(1);
        x.certify(2);
        Check.yes("27 by the very first one", x.isBlocked(1));
    }

    private static void promise28DueBetween() {
        ConstructionLedger x = chain();
        x.certify(2);
        x.certify(1);
        x.certify(0);
        Check.same("28 all", x.dueBetween(3, 10), 1700);
        Check.same("28 inside", x.dueBetween(4, 9), 500);
        Check.same("28 one day", x.dueBetween(5, 5), 500);
        Check.same("28 turned round", x.dueBetween(5, 4), 0);
        Check.same("28 wide", x.dueBetween(Integer.MIN_VALUE, Integer.MAX_VALUE), 1700);
        Check.same("28 wide and turned", x.dueBetween(Integer.MAX_VALUE, Integer.MIN_VALUE), 0);
        Check.same("28 before", x.dueBetween(-5, 2), 0);
        Check.same("28 after", x.dueBetween(11, 99), 0);
        x.pay(2, 600);
        x.pay(1, 500);
        Check.same("28 open amounts", x.dueBetween(3, 10), 600);
    }

    private static void promise29SettleDays() {
        ConstructionLedger x = Texts.ledger("project 50;main 0 0 10;item 0 10 10;");
        x.measure(0, 0, 50);
        x.certify(0);
        Check.same("29 on the due day", x.settleDays(0, 200), 11);
        Check.same("29 the limit is enough", x.settleDays(0, 11), 11);
        Check.same("29 the limit is not", x.settleDays(0, 10), -1);
        Check.same("29 no days", x.settleDays(0, 0), -1);
        Check.noArgument("29 below", () -> x.settleDays(0, -1));
        Check.noArgument("29 above", () -> x.settleDays(0, 201));
        x.measure(0, 0, 100);
        x.pass(3);
        x.certify(0);
        Check.same("29 first one", x.settleDays(0, 200), 8);
        Check.same("29 too little money", x.settleDays(1, 200), -1);
        x.deposit(50);
        Check.same("29 enough", x.settleDays(1, 200), 11);
        long before = x.checksum();
        x.settleDays(1, 200);
        Check.same("29 changes nothing", x.checksum(), before);
        Check.same("29 day", x.day(), 3);
        x.pass(30);
        Check.same("29 late", x.settleDays(1, 200), 1);
        x.pay(0, 50);
        Check.same("29 paid", x.settleDays(0, 0), 0);
        Check.same("29 paid, with days to spare", x.settleDays(0, 200), 0);
    }

    private static void promise29Chain() {
        ConstructionLedger x = chain();
        x.certify(0);
        x.certify(1);
        x.certify(2);
        Check.same("29 main", x.settleDays(0, 200), 11);
        // The sub is treated before main on the day on which main is paid, for it fell due earlier.
        Check.same("29 sub", x.settleDays(1, 200), 12);
        Check.same("29 linked sub", x.settleDays(2, 200), 13);
        Check.same("29 linked sub, limit", x.settleDays(2, 12), -1);
        Check.same("45 the same", x.settle(13), 1700);
        Check.same("21 owner", x.account(0), 0);
        Check.same("21 firms", x.account(1) * 1000000 + x.account(2) * 1000 + x.account(3), 500300200);
    }

    private static void promise42Pay() {
        ConstructionLedger x = chain();
        x.certify(0);
        x.certify(1);
        x.certify(2);
        Check.noArgument("42 nothing", () -> x.pay(0, 0));
        Check.noArgument("42 negative", () -> x.pay(0, Integer.MIN_VALUE));
        Check.noArgument("42 more than open", () -> x.pay(0, 1001));
        Check.noState("42 account too low", () -> x.pay(1, 1));
        Check.same("42 a part", x.pay(0, 400), 600);
        Check.same("21 owner", x.account(0), 600);
        Check.same("21 firm", x.account(1), 400);
        Check.noArgument("42 more than open now", () -> x.pay(0, 601));
        Check.noState("42 more than the account", () -> x.pay(1, 401));
        Check.same("42 all of the account", x.pay(1, 400), 100);
        Check.noState("42 blocked", () -> x.pay(2, 1));
        Check.noArgument("42 argument before blocked", () -> x.pay(2, 201));
        x.pay(0, 600);
        x.pay(1, 100);
        Check.same("42 free", x.pay(2, 200), 0);
        Check.noArgument("42 paid already", () -> x.pay(2, 1));
        Check.same("21 last firm", x.account(3), 200);
        Check.same("21 its payer", x.account(2), 300);
    }

    private static void promises17And18Unpaid() {
        ConstructionLedger x = chain();
        x.certify(1);
        x.propose(1, 0, 1);
        x.approve(0);
        x.pass(2);
        x.certify(1);
        Check.same("17 both", x.unpaid(1), 550);
        Check.same("17 the other", x.unpaid(0), 0);
        Check.same("18 none", x.overdue(1), 0);
        x.pass(3);
        Check.same("18 on the due day", x.overdue(1), 0);
        x.pass(1);
        Check.same("18 one day later", x.overdue(1), 500);
        x.certify(0);
        x.pay(2, 700);
        x.pay(0, 40);
        Check.same("17 less", x.unpaid(1), 510);
        Check.same("18 less", x.overdue(1), 460);
        x.pass(2);
        Check.same("18 both", x.overdue(1), 510);
        Check.same("18 the other", x.overdue(0), 0);
        for (int contract : new int[] {-1, 3}) {
            Check.noIndex("17", () -> x.unpaid(contract));
            Check.noIndex("18", () -> x.overdue(contract));
        }
    }

    private static void promise21Accounts() {
        ConstructionLedger x = chain();
        Check.same("21 owner", x.account(0), 1000);
        for (int i = 1; i <= 3; i++) {
            Check.same("21 firm at first", x.account(i), 0);
        }
        Check.noIndex("21 below", () -> x.account(-1));
        Check.noIndex("21 above", () -> x.account(4));
        Check.noIndex("21 far above", () -> x.account(Integer.MAX_VALUE));
    }

    private static void promise43Deposit() {
        ConstructionLedger x = new ConstructionLedger();
        Check.noState("43 no project", () -> x.deposit(1));
        Check.noArgument("43 argument first", () -> x.deposit(0));
        Texts.load(x, CHAIN);
        Check.noArgument("43 negative", () -> x.deposit(-1));
        Check.noArgument("43 above", () -> x.deposit(10000000));
        Check.same("43 least", x.deposit(1), 1001);
        Check.same("43 most", x.deposit(9999999), 10001000);
        for (int i = 0; i < 98; i++) {
            x.deposit(9999999);
        }
        Check.same("43 owner", x.account(0), 990000902);
        Check.noState("43 too much", () -> x.deposit(9999098));
        Check.same("43 full", x.deposit(9999097), 999999999);
        Check.noState("43 no more", () -> x.deposit(1));
    }

    private static void promise44Pass() {
        ConstructionLedger x = new ConstructionLedger();
        Check.noState("44 no project", () -> x.pass(1));
        Check.noArgument("44 argument first", () -> x.pass(366));
        Texts.load(x, CHAIN);
        Check.noArgument("44 nothing", () -> x.pass(0));
        Check.noArgument("44 negative", () -> x.pass(-1));
        Check.noArgument("44 above", () -> x.pass(366));
        Check.same("44 one", x.pass(1), 1);
        Check.same("44 most", x.pass(365), 366);
        Check.same("5 day", x.day(), 366);
        ConstructionLedger y = chain();
        y.certify(0);
        y.pass(300);
        Check.same("44 nothing is paid", y.account(0), 1000);
    }

    private static void promise45Settle() {
        ConstructionLedger x = new ConstructionLedger();
        Check.noState("45 no project", () -> x.settle(1));
        Check.noArgument("45 argument first", () -> x.settle(101));
        Texts.load(x, "project 30;main 0 0 2;item 0 10 10;");
        Check.noArgument("45 nothing", () -> x.settle(0));
        Check.noArgument("45 above", () -> x.settle(101));
        x.measure(0, 0, 50);
        x.certify(0);
        Check.same("45 not due", x.settle(2), 0);
        Check.same("5 day", x.day(), 2);
        Check.same("45 as much as there is", x.settle(1), 30);
        Check.same("25 open", x.openAmount(0), 20);
        Check.same("21 firm", x.account(1), 30);
        Check.same("45 no money", x.settle(100), 0);
        Check.same("5 later", x.day(), 103);
        x.deposit(100);
        Check.same("45 the rest", x.settle(5), 20);
        Check.same("25 paid", x.openAmount(0), 0);
        Check.same("45 nothing open", x.settle(1), 0);
        Check.same("5 at last", x.day(), 109);
    }

    private static void promise45Order() {
        // The money is enough for one certificate: the one that is due first gets it.
        ConstructionLedger x = Texts.ledger("project 100;main 0 0 0;sub 0 0 0 9 0;sub 0 0 0 4 0;sub 0 0 0 4 0;"
                + "item 0 1 100;item 1 1 60;item 2 1 50;item 3 1 40;");
        for (int i = 0; i < 4; i++) {
            x.measure(i, 0, 100);
        }
        for (int i = 1; i <= 3; i++) {
            x.certify(i);
        }
        x.certify(0);
        x.pay(3, 100);
        x.pass(20);
        Check.same("45 all of it", x.settle(1), 100);
        Check.same("45 due last", x.openAmount(0), 50);
        Check.same("45 due first", x.openAmount(1), 0);
        Check.same("45 same day, by index", x.openAmount(2), 0);
        x.undo();
        x.undo();
        x.settle(5);
        Check.same("45 only those due", x.openAmount(0), 60);
        Check.same("21 what is left", x.account(1), 10);
    }

    private static void promise45Quiet() {
        // Nothing is paid for days, and then a later certificate brings the money.
        ConstructionLedger x = chain();
        x.certify(1);
        x.certify(0);
        Check.same("45 quiet", x.settle(10), 0);
        Check.same("5 quiet", x.day(), 10);
        Check.same("45 main on its day", x.settle(1), 1000);
        Check.same("45 sub on the next", x.settle(1), 500);
        x.undo();
        x.undo();
        Check.same("45 in one call", x.settle(30), 1500);
        Check.same("5 the days are up", x.day(), 40);
    }

    private static void promise45NextDay() {
        ConstructionLedger x = Texts.ledger("project 100;main 0 0 1;sub 0 0 0 0 0;item 0 1 100;item 1 1 60;");
        x.measure(0, 0, 100);
        x.measure(1, 0, 100);
        x.certify(1);
        x.certify(0);
        Check.same("29 main on the very next day", x.settleDays(1, 200), 2);
        Check.same("45 main on the very next day", x.settle(2), 100);
        Check.same("45 then the sub", x.settle(1), 60);
    }

    private static void promise45Blocked() {
        // The payer of the linked sub has money, but is itself not wholly paid.
        ConstructionLedger x = chain();
        x.measure(1, 0, 50);
        x.certify(0);
        x.certify(1);
        x.pay(0, 1000);
        x.pay(1, 250);
        x.measure(1, 0, 100);
        x.certify(1);
        x.certify(2);
        x.pay(2, 249);
        x.pass(3);
        Check.yes("27 one unit is open", x.isBlocked(3));
        Check.same("45 blocked though there is money", x.settle(1), 0);
        Check.same("45 money", x.account(2), 499);
        x.pass(1);
        Check.same("29 on the same day, by due day", x.settleDays(3, 9), 2);
        Check.same("45 the open unit", x.settle(1), 1);
        Check.same("45 free on the next day", x.settle(1), 200);
    }

    private static void lastDay() {
        ConstructionLedger x = Texts.ledger("project 5;main 0 0 60;item 0 1 5;");
        for (int i = 0; i < 273; i++) {
            x.pass(365);
        }
        x.pass(300);
        Check.same("44 near the end", x.day(), 99945);
        Check.noState("44 beyond the end", () -> x.pass(56));
        Check.noState("45 beyond the end", () -> x.settle(56));
        x.measure(0, 0, 100);
        x.certify(0);
        Check.same("26 beyond the end", x.dueDay(0), 100005);
        Check.same("29 beyond the end", x.settleDays(0, 200), 61);
        Check.same("44 to the end", x.pass(55), 100000);
        x.undo();
        Check.same("45 to the end", x.settle(55), 0);
        Check.same("5 the end", x.day(), 100000);
        Check.noState("44 no more", () -> x.pass(1));
        Check.noState("45 no more", () -> x.settle(1));
    }
}

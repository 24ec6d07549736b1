/** Promises 1 to 8: a new object, the buffer, the setup text and what it declares. */
public final class SetupTest {
    private static final String HEAD = "project 7;main 1 2 3;";

    public static void main(String[] args) {
        promise01New();
        promise02Append();
        promise03Lengths();
        promise03Empties();
        promise03Replaces();
        promise03Spaces();
        promise03SyntaxErrors();
        promise03Ends();
        promise03Ranges();
        promise03TooMany();
        promise03TooDeep();
        promise03FirstErrorCounts();
        promise04ErrorOffset();
        promises05To08Declared();
        Check.end("SetupTest");
    }

    private static void promise01New() {
        ConstructionLedger x = new ConstructionLedger();
        Check.same("1 day", x.day(), 0);
        Check.same("1 contracts", x.contractCount(), 0);
        Check.same("1 certificates", x.certificateCount(), 0);
        Check.same("1 variations", x.variationCount(), 0);
        Check.same("1 liens", x.lienCount(), 0);
        Check.same("1 owner", x.account(0), 0);
        Check.same("1 undo", x.undo(), -1);
        Check.same("1 checksum", x.checksum(), 0);
        Check.noArgument("1 empty buffer", () -> x.load(1));
        Check.noIndex("1 no contract", () -> x.stage(0));
        Check.noIndex("1 no firm", () -> x.account(1));
    }

    private static void promise02Append() {
        ConstructionLedger x = new ConstructionLedger();
        for (int i = 1; i <= 45; i++) {
            Check.same("2 length", x.append(-1, 0, 0, 0, 0), 20 * i);
        }
        Check.same("2 full", x.append(0x70726f6a, 0x65637420, 0x373b6d61, 0x696e2031, 0x20322033), -1);
        Check.noArgument("2 still 900", () -> x.load(901));
        Check.same("2 unchanged", x.load(900), ConstructionLedger.SYNTAX_ERROR);
        Check.same("2 first byte", x.errorOffset(), 0);
        Check.same("2 after load", x.append(0x70726f6a, 0x65637420, 0x373b6d61, 0x696e2031, 0x20322033), 20);
        Check.same("2 second", x.append(0x3b202020, 0x20202020, 0x20202020, 0x20202020, 0x20202020), 40);
        Check.same("2 order of bytes", x.load(40), 1);
        Check.same("2 owner", x.account(0), 7);
        Check.same("2 emptied", x.append(0, 0, 0, 0, 0), 20);
    }

    private static void promise03Lengths() {
        ConstructionLedger x = new ConstructionLedger();
        Texts.append(x, Texts.bytesOf(HEAD));
        Check.noArgument("3 negative", () -> x.load(-1));
        Check.noArgument("3 smallest", () -> x.load(Integer.MIN_VALUE));
        Check.noArgument("3 beyond", () -> x.load(41));
        Check.noArgument("3 largest", () -> x.load(Integer.MAX_VALUE));
        Check.same("3 unchanged", x.load(21), 1);
        Texts.append(x, Texts.bytesOf(HEAD + "sub 0 1 1 1 1;"));
        Check.same("3 only the first bytes", x.load(21), 1);
        cutsAt("project 12;main 1 2 3;", 9);
        cutsAt("project 7;mainly", 14);
        cutsAt("project 7;    main", 12);
    }

    /** The text would go on with the same run of digits, letters or spaces. */
    private static void cutsAt(String text, int length) {
        ConstructionLedger x = new ConstructionLedger();
        Texts.append(x, Texts.bytesOf(text));
        Check.same("3 cut " + text, x.load(length), ConstructionLedger.SYNTAX_ERROR);
        Check.same("4 end of the cut " + text, x.errorOffset(), length);
    }

    private static void promise03Empties() {
        ConstructionLedger x = new ConstructionLedger();
        Check.same("3 error", Texts.load(x, "project"), ConstructionLedger.SYNTAX_ERROR);
        Check.noArgument("3 empty after an error", () -> x.load(1));
        Check.same("3 empty text", x.load(0), ConstructionLedger.SYNTAX_ERROR);
        Check.same("3 offset of the empty text", x.errorOffset(), 0);
    }

    private static void promise03Replaces() {
        ConstructionLedger x = Texts.ledger("project 9;main 0 0 5;item 0 10 10;threshold 0;rate 77;");
        x.measure(0, 0, 100);
        x.certify(0);
        x.propose(0, 0, 1);
        x.pass(6);
        x.fileLien(0);
        x.pay(0, 9);
        long before = x.checksum();
        Check.same("3 bad text", Texts.load(x, "project 1;main 1 1 1;item 0 9 9;sub"), -2);
        Check.same("3 unchanged by an error", x.checksum(), before);
        Check.same("3 first sum stays", x.firstSum(0), 100);
        Check.same("3 rate stays", x.specialRate(0, 0), 77);
        Check.same("3 good text", Texts.load(x, HEAD + "item 0 8 3;"), 1);
        Check.same("3 day", x.day(), 0);
        Check.same("3 variations", x.variationCount(), 0);
        Check.same("3 certificates", x.certificateCount(), 0);
        Check.same("3 liens", x.lienCount(), 0);
        Check.same("3 owner", x.account(0), 7);
        Check.same("3 firm", x.account(1), 0);
        Check.same("3 stage", x.stage(0), 0);
        Check.same("3 no rate", x.specialRate(0, 0), 3);
        Check.same("3 progress", x.measure(0, 0, 1), 0);
        x.propose(0, 0, 3);
        x.approve(0);
        Check.same("3 usual threshold", x.presentSum(0), 33);
    }

    private static void promise03Spaces() {
        accepts("project7;main1 1 1;", 1);
        accepts("   project   7  ;  main 1  1   1 ;   ", 1);
        accepts("project 0000000000007;main 01 1 1;sub0 1 1 1 1linked;item1 5 5;rate(price);", 2);
        accepts("project 7;main 20 20 60;sub 0 20 20 60 3 linked;threshold 100;", 2);
        accepts("project 0;main 0 0 0;sub 0 0 0 0 0;threshold 0;item 1 1 0;item 0 999 9999;", 2);
        accepts(HEAD + "rate 9999*price+first/excess-(1);", 1);
        refuses("project 7;main 1 11;", -2, 19);
        refuses("project\t7;main 1 1 1;", -2, 7);
        refuses("project 7;\nmain 1 1 1;", -2, 10);
        refuses(HEAD + "\0", -2, 21);
        refuses(HEAD + "   \0", -2, 24);
        refuses(HEAD + (char) 160, -2, 21);
        refuses(HEAD + (char) 255, -2, 21);
    }

    private static void promise03SyntaxErrors() {
        refuses("", -2, 0);
        refuses("main 1 1 1;", -2, 0);
        refuses("7;main 1 2 3;", -2, 0);
        refuses("project 7;1 2 3;", -2, 10);
        refuses("project 7;mainz 1 2 3;", -2, 10);
        refuses("project 7;amain 1 2 3;", -2, 10);
        refuses("project 7;nain 1 2 3;", -2, 10);
        refuses(HEAD + "dub 0 1 1 1 1;", -2, 21);
        refuses(HEAD + "iten 0 1 1;", -2, 21);
        refuses("Project 7;main 1 2 3;", -2, 0);
        refuses("projects 7;main 1 2 3;", -2, 0);
        refuses("project a;main 1 2 3;", -2, 8);
        refuses("project -7;main 1 2 3;", -2, 8);
        refuses("project 7 main 1 2 3;", -2, 10);
        refuses("project 7 8;main 1 2 3;", -2, 10);
        refuses("project 7;;main 1 2 3;", -2, 10);
        refuses("project 7;main 1 2;", -2, 18);
        refuses("project 7;main 1 2 3 4;", -2, 21);
        refuses("project 7;main 1 2 3 linked;", -2, 21);
        refuses(HEAD + ";", -2, 21);
        refuses(HEAD + "main 1 1 1;", -2, 21);
        refuses(HEAD + "subs 0 1 1 1 1;", -2, 21);
        refuses(HEAD + "sub 0 1 1 1;", -2, 32);
        refuses(HEAD + "sub 0 1 1 1 1 link;", -2, 35);
        refuses(HEAD + "sub 0 1 1 1 1 linked linked;", -2, 42);
        refuses(HEAD + "item 0 1;", -2, 29);
        refuses(HEAD + "item 0 1 1 1;", -2, 32);
        refuses(HEAD + "threshold;", -2, 30);
        refuses(HEAD + "threshold price;", -2, 31);
        refuses(HEAD + "threshold 5+5;", -2, 32);
        refuses(HEAD + "threshold 5;threshold 5;", -2, 33);
        refuses(HEAD + "rate 5;rate 5;", -2, 28);
        refuses(HEAD + "rate 5;item 0 1 1;rate", -2, 39);
        refuses(HEAD + "rate;", -2, 25);
        refuses(HEAD + "rate 5 5;", -2, 28);
        refuses(HEAD + "rate -5;", -2, 26);
        refuses(HEAD + "rate 5+;", -2, 28);
        refuses(HEAD + "rate 5*/5;", -2, 28);
        refuses(HEAD + "rate (5;", -2, 28);
        refuses(HEAD + "rate 5);", -2, 27);
        refuses(HEAD + "rate ();", -2, 27);
        refuses(HEAD + "rate 5(5);", -2, 27);
        refuses(HEAD + "rate prices;", -2, 26);
        refuses(HEAD + "rate pricefirst;", -2, 26);
        refuses(HEAD + "rate price first;", -2, 32);
        refuses(HEAD + "rate sub;", -2, 26);
        refuses(HEAD + "rate 5%5;", -2, 27);
    }

    private static void promise03Ends() {
        refuses("   ", -2, 3);
        refuses("projec", -2, 0);
        refuses("project 7;main 1 2 3", -2, 20);
        refuses("project 7;main 1 2 3  ", -2, 22);
        refuses("project 7;", -2, 10);
        refuses(HEAD + "sub 0 1 1 1 1 linked", -2, 41);
        refuses(HEAD + "item 0 1 ", -2, 30);
        refuses(HEAD + "rate (5", -2, 28);
        refuses(HEAD + "rate 5 +  ", -2, 31);
        refuses(HEAD + "thresh", -2, 21);
    }

    private static void promise03Ranges() {
        accepts("project 9999999;main 1 1 1;", 1);
        refuses("project 10000000;main 1 1 1;", -3, 8);
        refuses("project 0099999999999999999999999999;main 1 1 1;", -3, 8);
        refuses("project 4294967303;main 1 1 1;", -3, 8);
        refuses("project 7;main 21 1 1;", -3, 15);
        refuses("project 7;main 1 21 1;", -3, 17);
        refuses("project 7;main 1 1 61;", -3, 19);
        refuses(HEAD + "sub 1 1 1 1 1;", -3, 25);
        refuses(HEAD + "sub 0 1 1 1 1;sub 2 1 1 1 1;", -3, 39);
        accepts(HEAD + "sub 0 1 1 1 1;sub 1 1 1 1 1;", 3);
        refuses(HEAD + "sub 0 21 1 1 1;", -3, 27);
        refuses(HEAD + "sub 0 1 21 1 1;", -3, 29);
        refuses(HEAD + "sub 0 1 1 61 1;", -3, 31);
        refuses(HEAD + "sub 0 1 1 1 4;", -3, 33);
        refuses(HEAD + "item 1 1 1;sub 0 1 1 1 1;", -3, 26);
        refuses(HEAD + "item 0 0 1;", -3, 28);
        refuses(HEAD + "item 0 1000 1;", -3, 28);
        refuses(HEAD + "item 0 1 10000;", -3, 30);
        refuses(HEAD + "threshold 101;", -3, 31);
        refuses(HEAD + "rate 10000;", -3, 26);
        refuses(HEAD + "rate (price*10000);", -3, 33);
    }

    private static void promise03TooMany() {
        String seven = HEAD + "sub 0 1 1 1 1;".repeat(7);
        accepts(seven, 8);
        refuses(seven + "sub 0 1 1 1 1;", -4, seven.length());
        refuses(seven + "  sub", -4, seven.length() + 2);
        refuses(seven + "sub x", -4, seven.length());
        String six = HEAD + "sub 0 1 1 1 1;" + "item 1 5 5;".repeat(6);
        accepts(six + "item 0 5 5;", 2);
        refuses(six + "item  1 5 5;", -4, six.length() + 6);
        refuses(six + "item 1", -4, six.length() + 5);
        refuses(six + "item 2 5 5;", -3, six.length() + 5);
    }

    private static void promise03TooDeep() {
        accepts(HEAD + "rate ((((1))));", 1);
        accepts(HEAD + "rate ((((1))))+((((1))));", 1);
        refuses(HEAD + "rate (((((1)))));", -5, 30);
        refuses(HEAD + "rate (1+(1+(1+(1+(", -5, 38);
        refuses(HEAD + "rate ((((1 (", -2, 32);
    }

    private static void promise03FirstErrorCounts() {
        refuses(HEAD + "rate 10000*(((((1;", -3, 26);
        refuses(HEAD + "sub 9 99 99 99 99", -3, 25);
        refuses(HEAD + "threshold 5;rate 5;threshold 101;", -2, 40);
        refuses("project 10000000,", -3, 8);
    }

    private static void promise04ErrorOffset() {
        ConstructionLedger x = new ConstructionLedger();
        Check.same("4 no load", x.errorOffset(), -1);
        Check.noArgument("4 throws", () -> x.load(5));
        Check.same("4 after a throw", x.errorOffset(), -1);
        Texts.load(x, "project 7,");
        Check.same("4 after an error", x.errorOffset(), 9);
        Check.noArgument("4 throws again", () -> x.load(5));
        Check.same("4 stays", x.errorOffset(), 9);
        Texts.load(x, HEAD);
        Check.same("4 after success", x.errorOffset(), -1);
        Texts.load(x, "project 7;main 1 2 3;.");
        x.undo();
        Check.same("4 undo leaves it", x.errorOffset(), 21);
    }

    private static void promises05To08Declared() {
        ConstructionLedger x = Texts.ledger(HEAD + "sub 0 1 1 1 1;item 1 5 5;sub 1 1 1 1 1;sub 0 1 1 1 1;item 1 6 6;");
        Check.same("5 day", x.day(), 0);
        x.pass(12);
        Check.same("5 later", x.day(), 12);
        Check.same("6 contracts", x.contractCount(), 4);
        Check.same("7 main", x.parent(0), -1);
        Check.same("7 sub", x.parent(1), 0);
        Check.same("7 sub of sub", x.parent(2), 1);
        Check.same("7 last", x.parent(3), 0);
        Check.noIndex("7 below", () -> x.parent(-1));
        Check.noIndex("7 above", () -> x.parent(4));
        Check.same("8 none", x.itemCount(0), 0);
        Check.same("8 two", x.itemCount(1), 2);
        Check.noIndex("8 below", () -> x.itemCount(-1));
        Check.noIndex("8 above", () -> x.itemCount(4));
    }

    private static void accepts(String text, int contracts) {
        ConstructionLedger x = new ConstructionLedger();
        Check.same("3 accepts " + text, Texts.load(x, text), contracts);
        Check.same("3 no offset for " + text, x.errorOffset(), -1);
        Check.same("3 contracts of " + text, x.contractCount(), contracts);
    }

    private static void refuses(String text, int code, int offset) {
        ConstructionLedger x = new ConstructionLedger();
        Check.same("3 refuses " + text, Texts.load(x, text), code);
        Check.same("4 offset for " + text, x.errorOffset(), offset);
        Check.same("3 still no project for " + text, x.contractCount(), 0);
        Check.same("3 nothing to undo for " + text, x.undo(), -1);
    }
}

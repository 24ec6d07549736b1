/** The promises 1 to 36: the buffer, the setup text and what can be asked. */
final class QueryEdges {
    private static final int LOWEST = Integer.MIN_VALUE;
    private static final int HIGHEST = Integer.MAX_VALUE;

    interface ByIndex {
        void call(ConstructionLedger x, int index);
    }

    interface ByPair {
        void call(ConstructionLedger x, int contract, int item);
    }

    private QueryEdges() {
    }

    static void all() {
        newObject();
        append();
        load();
        loadLength();
        errorOffset();
        counts();
        wrongContracts();
        wrongItems();
        wrongOthers();
        contracts();
        margin();
        accounts();
        certificates();
        dueBetween();
        settleDays();
        variations();
        liens();
    }

    /** The first and the last index answer; those beside them are refused, and the farthest ones. */
    static void outside(int count, ByIndex method) {
        for (int index : new int[] {LOWEST, -1, count, count + 1, 99, HIGHEST}) {
            Refused.index("index " + index, Given::busy, x -> method.call(x, index));
        }
        for (int index : new int[] {-1, 0, 1}) {
            Refused.index("index " + index + " without a project", ConstructionLedger::new,
                    x -> method.call(x, index));
        }
        for (int index : new int[] {0, count - 1}) {
            Check.no("index " + index + " is refused", isRefused(index, method));
        }
    }

    private static boolean isRefused(int index, ByIndex method) {
        try {
            method.call(Given.busy(), index);
            return false;
        } catch (IllegalStateException e) {
            return false;
        } catch (IndexOutOfBoundsException e) {
            return true;
        }
    }

    static void outsideItems(ByPair method) {
        outside(3, (x, contract) -> method.call(x, contract, 0));
        int[] counts = {1, 2, 1};
        for (int contract = 0; contract < 3; contract++) {
            int c = contract;
            for (int item : new int[] {LOWEST, -1, counts[c], counts[c] + 1, 6, HIGHEST}) {
                Refused.index("item " + item + " of " + c, Given::busy, x -> method.call(x, c, item));
            }
            for (int item = 0; item < counts[c]; item++) {
                method.call(Given.busy(), c, item);
            }
        }
        Refused.index("no items", () -> Texts.ledger(Given.LEAST), x -> method.call(x, 0, 0));
    }

    private static void noContract(int promise, ByIndex method) {
        Says.that(promise, "Throws `IndexOutOfBoundsException` if there is no such contract",
                () -> outside(3, method));
    }

    private static void noItem(int promise, ByPair method) {
        Says.that(promise, "Throws `IndexOutOfBoundsException` if there is no such contract or item",
                () -> outsideItems(method));
    }

    private static void noCertificate(int promise, ByIndex method) {
        Says.that(promise, "Throws `IndexOutOfBoundsException` if there is no such certificate",
                () -> outside(3, method));
    }

    private static void newObject() {
        Says.that(1, "Creates an object without a project and with an empty input buffer.", () -> {
            ConstructionLedger x = new ConstructionLedger();
            Check.same("contracts", x.contractCount(), 0);
            Check.same("owner", x.account(0), 0);
            Refused.argument("a byte", ConstructionLedger::new, y -> y.load(1));
            Check.same("empty text", x.load(0), ConstructionLedger.SYNTAX_ERROR);
            Check.same("first 20 bytes", x.append(0, 0, 0, 0, 0), 20);
        });
    }

    private static void append() {
        Says.that(2, "Appends 20 bytes to the input buffer: the 4 bytes of each argument,"
                + " the most significant byte first.", () -> {
            ConstructionLedger x = new ConstructionLedger();
            x.append(0x70726f6a, 0x65637437, 0x3b6d6169, 0x6e302030, 0x20303b20);
            Check.same("the words' order", x.load(20), 1);
            Check.same("owner", x.account(0), 7);
            int[] words = {0x20202020, 0x20202020, 0x20202020, 0x20202020, 0x20202020};
            for (int at = 0; at < 20; at++) {
                int[] w = words.clone();
                w[at / 4] ^= 0xa0 << 24 - at % 4 * 8;
                x.append(w[0], w[1], w[2], w[3], w[4]);
                x.load(20);
                Check.same("a byte of 128 and more at " + at, x.errorOffset(), at);
            }
        });
        Says.that(2, "Returns the new length of the buffer; -1 if it would exceed 900 bytes,"
                + " and the buffer is unchanged then.", () -> {
            ConstructionLedger x = fullBuffer();
            for (int i = 0; i < 3; i++) {
                Check.same("beyond 900", x.append(-1, -1, -1, -1, -1), -1);
            }
            Check.noArgument("901 bytes", () -> x.load(901));
            Check.same("the 900 bytes as they were", x.load(900), 1);
            Check.same("the last one among them", x.specialRate(0, 0), 432 + 9);
            Check.same("from 20 again", x.append(0, 0, 0, 0, 0), 20);
        });
    }

    /** 900 bytes that are a text only if each of them is there. */
    private static ConstructionLedger fullBuffer() {
        ConstructionLedger x = new ConstructionLedger();
        byte[] text = Texts.bytesOf(Given.LEAST + "item0 1 1;rate " + "1+".repeat(432) + "9;");
        for (int at = 0; at < 900; at += 20) {
            int[] w = new int[5];
            for (int i = 0; i < 20; i++) {
                w[i / 4] = w[i / 4] << 8 | text[at + i] & 255;
            }
            Check.same("length", x.append(w[0], w[1], w[2], w[3], w[4]), at + 20);
        }
        return x;
    }

    private static void load() {
        Says.that(3, "Reads the first bytes of the input buffer as a setup text"
                + " and replaces the project by the one that it describes.", () -> {
            ConstructionLedger x = Given.busy();
            Check.same("20 of 20 bytes", x.load(20), 1);
            Check.same("owner", x.account(0), 7);
            Check.same("firm", x.account(1), 0);
            Check.same("items", x.itemCount(0), 0);
            Check.same("stage", x.stage(0), 0);
            ConstructionLedger y = Given.busy();
            Check.same("19 of 20 bytes", y.load(19), 1);
            ConstructionLedger z = Given.busy();
            Check.same("18 of 20 bytes", z.load(18), ConstructionLedger.SYNTAX_ERROR);
            Check.same("its end", z.errorOffset(), 18);
            cutInARun();
        });
        Says.that(3, "The day is 0 then, and there are no variations, certificates and liens.", () -> {
            nothingOfTheOldOne();
            ConstructionLedger x = Given.busy();
            x.load(20);
            Check.same("day", x.day(), 0);
            Check.same("variations", x.variationCount(), 0);
            Check.same("certificates", x.certificateCount(), 0);
            Check.same("liens", x.lienCount(), 0);
            Check.noIndex("variation", () -> x.isApproved(0));
            Check.noIndex("certificate", () -> x.amount(0));
            Check.noIndex("lien", () -> x.claim(0));
        });
        Says.that(3, "The input buffer is empty afterwards, also if the text has an error.", () -> {
            for (int length : new int[] {0, 1, 19, 20}) {
                ConstructionLedger x = Given.busy();
                x.load(length);
                Check.noArgument("no byte left after " + length, () -> x.load(1));
                Check.same("20 new ones after " + length, x.append(0, 0, 0, 0, 0), 20);
            }
        });
        Says.that(3, "An error leaves all other data unchanged.", () -> {
            String[] texts = {"", "project 9", Given.HEAD + "rate 9;threshold 9;item 0 9 9;sub 0 9 9 9 9;.",
                "project 99999999", Given.HEAD + "sub 0 1 1 1 1;".repeat(8), Given.HEAD + "rate 9+(((((",
                Given.LEAST + "item0 1 1;".repeat(7)};
            for (String text : texts) {
                ConstructionLedger x = Given.busy();
                x.load(0);
                String before = Trace.state(x);
                Check.yes("an error in " + text, Texts.load(x, text) < 0);
                Check.yes("no trace of " + text, before.equals(Trace.state(x)));
                Check.same("no change by " + text, x.undo(), 6);
            }
        });
        Says.that(3, "An empty text has a SYNTAX_ERROR.", () -> {
            ConstructionLedger x = Given.busy();
            Check.same("of a filled buffer", x.load(0), ConstructionLedger.SYNTAX_ERROR);
            Check.same("at 0", x.errorOffset(), 0);
            Check.same("of an empty one", x.load(0), ConstructionLedger.SYNTAX_ERROR);
            Check.same("at 0 again", x.errorOffset(), 0);
        });
        Says.that(3, "Returns the number of contracts; or the error code of the first error.", () -> {
            TextEdges.accepts(Given.LEAST, 1);
            TextEdges.accepts(Given.LEAST + "sub0 0 0 0 0;".repeat(7), 8);
            TextEdges.refuses(Given.LEAST + "sub0 0 0 0 0;".repeat(8), ConstructionLedger.TOO_MANY, 19 + 7 * 13);
            TextEdges.refuses(Given.LEAST + "rate 10000*((((((", ConstructionLedger.OUT_OF_RANGE, 24);
        });
    }

    /** The bytes behind the given length belong to no number and no word, though they would fit. */
    private static void cutInARun() {
        ConstructionLedger x = new ConstructionLedger();
        Texts.append(x, Texts.bytesOf("project 99999999;mai"));
        Check.same("seven digits of eight", x.load(15), ConstructionLedger.SYNTAX_ERROR);
        Check.same("the text's end behind them", x.errorOffset(), 15);
        Texts.append(x, Texts.bytesOf("project 99999999;mai"));
        Check.same("all eight digits", x.load(16), ConstructionLedger.OUT_OF_RANGE);
        Texts.append(x, Texts.bytesOf("project 7;main 1 2 3;subs"));
        Check.same("three letters of four", x.load(24), ConstructionLedger.SYNTAX_ERROR);
        Check.same("the text's end behind the word", x.errorOffset(), 24);
        Texts.append(x, Texts.bytesOf("project 7;main 1 2 3;subs"));
        Check.same("all four letters", x.load(25), ConstructionLedger.SYNTAX_ERROR);
        Check.same("another word", x.errorOffset(), 21);
    }

    /** A contract with fewer items than before, and with the first certificate of its own again. */
    private static void nothingOfTheOldOne() {
        ConstructionLedger x = Texts.ledger("project 9;main 0 0 0;sub 0 0 0 0 0 linked;"
                + "item 0 1 9;item 0 1 8;item 1 1 7;");
        x.measure(0, 0, 100);
        x.certify(0);
        Texts.load(x, "project 9;main 0 0 0;sub 0 0 0 0 0 linked;item 0 1 9;item 1 1 7;");
        x.measure(0, 0, 100);
        x.measure(1, 0, 100);
        Check.same("present sum", x.presentSum(0), 9);
        Check.same("gross value", x.grossValue(0), 9);
        Check.same("first sum", x.firstSum(0), 9);
        Check.same("due", x.dueBetween(LOWEST, HIGHEST), 0);
        x.certify(1);
        Check.no("blocked by the old certificate", x.isBlocked(0));
        Check.same("complete", x.nextStage(0), 1);
        Check.same("amount", x.amount(x.certify(0)), 9);
    }

    private static void loadLength() {
        Says.that(3, "Throws `IllegalArgumentException` if length is negative or greater than the length of the"
                + " buffer; the buffer is unchanged then", () -> {
            for (int length : new int[] {LOWEST, -1, 21, 900, 901, HIGHEST}) {
                Refused.argument("length " + length, Given::busy, x -> x.load(length));
            }
            for (int length : new int[] {-1, 1, 20}) {
                Refused.argument("length " + length + " of 0", ConstructionLedger::new, x -> x.load(length));
            }
            Refused.argument("901 of 900", QueryEdges::fullBuffer, x -> x.load(901));
        });
    }

    private static void errorOffset() {
        Says.that(4, "Returns the offset of the error found by the latest call of load that did not throw;"
                + " -1 if it found none or if there was no such call.", () -> {
            ConstructionLedger x = new ConstructionLedger();
            Check.same("no call", x.errorOffset(), -1);
            Check.noArgument("a throw", () -> x.load(1));
            Check.same("only a call that threw", x.errorOffset(), -1);
            x.load(0);
            Check.same("the first byte", x.errorOffset(), 0);
            Check.noArgument("a throw", () -> x.load(1));
            Check.same("then a call that threw", x.errorOffset(), 0);
            Texts.load(x, Given.HEAD + " ".repeat(900 - 21 - 1) + ".");
            Check.same("the last byte", x.errorOffset(), 899);
            Texts.load(x, "project 7;main 1 2 3" + " ".repeat(880));
            Check.same("the end of the longest text", x.errorOffset(), 900);
            Texts.load(x, Given.LEAST);
            Check.same("none", x.errorOffset(), -1);
            Check.noArgument("a throw", () -> x.load(-1));
            Check.same("none, then a call that threw", x.errorOffset(), -1);
        });
    }

    private static void counts() {
        Says.that(5, "Returns the day.", () -> {
            Check.same("first", new ConstructionLedger().day(), 0);
            Check.same("last", Given.atDay(Given.LEAST, 100000).day(), 100000);
        });
        Says.that(6, "Returns the number of contracts.", () -> {
            Check.same("none", new ConstructionLedger().contractCount(), 0);
            Check.same("least", Texts.ledger(Given.LEAST).contractCount(), 1);
            Check.same("most", Texts.ledger(Given.LEAST + "sub0 0 0 0 0;".repeat(7)).contractCount(), 8);
        });
        Says.that(8, "Returns the number of its items.", () -> {
            ConstructionLedger x = Texts.ledger(Given.LEAST + "sub0 0 0 0 0;" + "item1 1 1;".repeat(6));
            Check.same("none", x.itemCount(0), 0);
            Check.same("most", x.itemCount(1), 6);
        });
        Says.that(22, "Returns the number of certificates.", () -> {
            ConstructionLedger x = Texts.ledger("project 0;main 0 0 0;item 0 100 1;");
            for (int i = 1; i <= 40; i++) {
                Check.same("before " + i, x.certificateCount(), i - 1);
                x.measure(0, 0, i);
                x.certify(0);
            }
            Check.same("most", x.certificateCount(), 40);
        });
        Says.that(30, "Returns the number of variations.", () -> {
            ConstructionLedger x = Texts.ledger("project 0;main 0 0 0;item 0 100 1;");
            for (int i = 1; i <= 20; i++) {
                Check.same("before " + i, x.variationCount(), i - 1);
                x.propose(0, 0, i);
            }
            Check.same("most", x.variationCount(), 20);
            x.approve(0);
            Check.same("approved ones included", x.variationCount(), 20);
        });
        Says.that(33, "Returns the number of liens, withdrawn ones included.", () -> {
            ConstructionLedger x = Given.liens(new int[] {1}, new int[] {});
            Check.same("none", x.lienCount(), 0);
            ConstructionLedger y = Given.liens(new int[] {1}, new int[] {5});
            for (int lien = 0; lien < 11; lien++) {
                Check.same("filed", y.lienCount(), lien + 1);
                y.withdrawLien(lien);
                Check.same("withdrawn", y.lienCount(), lien + 1);
                y.fileLien(1);
            }
            Check.same("most", y.lienCount(), 12);
        });
    }

    private static void wrongContracts() {
        noContract(7, (x, c) -> x.parent(c));
        noContract(8, (x, c) -> x.itemCount(c));
        noContract(12, (x, c) -> x.firstSum(c));
        noContract(13, (x, c) -> x.presentSum(c));
        noContract(14, (x, c) -> x.grossValue(c));
        noContract(15, (x, c) -> x.retention(c));
        noContract(16, (x, c) -> x.certified(c));
        noContract(17, (x, c) -> x.unpaid(c));
        noContract(18, (x, c) -> x.overdue(c));
        noContract(19, (x, c) -> x.stage(c));
        noContract(20, (x, c) -> x.margin(c));
        noContract(40, (x, c) -> x.certify(c));
        noContract(41, (x, c) -> x.nextStage(c));
        noContract(46, (x, c) -> x.fileLien(c));
    }

    private static void wrongItems() {
        noItem(9, (x, c, i) -> x.quantity(c, i));
        noItem(10, (x, c, i) -> x.specialRate(c, i));
        noItem(11, (x, c, i) -> x.itemValue(c, i));
        noItem(37, (x, c, i) -> x.measure(c, i, 50));
        noItem(38, (x, c, i) -> x.propose(c, i, 1));
    }

    private static void wrongOthers() {
        noCertificate(23, (x, z) -> x.certificateContract(z));
        noCertificate(24, (x, z) -> x.amount(z));
        noCertificate(25, (x, z) -> x.openAmount(z));
        noCertificate(26, (x, z) -> x.dueDay(z));
        noCertificate(27, (x, z) -> x.isBlocked(z));
        noCertificate(29, (x, z) -> x.settleDays(z, 5));
        noCertificate(42, (x, z) -> x.pay(z, 1));
        String noVariation = "Throws `IndexOutOfBoundsException` if there is no such variation";
        Says.that(31, noVariation, () -> outside(3, (x, v) -> x.isApproved(v)));
        Says.that(32, noVariation, () -> outside(3, (x, v) -> x.variationWorth(v)));
        Says.that(39, noVariation, () -> outside(3, (x, v) -> x.approve(v)));
        String noLien = "Throws `IndexOutOfBoundsException` if there is no such lien";
        Says.that(34, noLien, () -> outside(2, (x, l) -> x.claim(l)));
        Says.that(36, noLien, () -> outside(2, (x, l) -> x.share(l, 5)));
        Says.that(47, noLien, () -> outside(2, (x, l) -> x.withdrawLien(l)));
        Says.that(35, "Throws `IndexOutOfBoundsException` if there is no such position",
                () -> outside(2, (x, k) -> x.priority(k)));
    }

    private static void contracts() {
        Says.that(7, "Returns its parent; -1 for the main contract.", () -> {
            ConstructionLedger x = Texts.ledger(Given.LEAST + "sub0 0 0 0 0;".repeat(6) + "sub6 0 0 0 0;");
            Check.same("main", x.parent(0), -1);
            Check.same("first sub", x.parent(1), 0);
            Check.same("last sub", x.parent(7), 6);
        });
        Says.that(17, "Returns the sum of the open amounts of its certificates.", () -> {
            ConstructionLedger x = Given.done("project 9;main 0 0 0;item 0 1 9;");
            Check.same("none", x.unpaid(0), 0);
            x.certify(0);
            Check.same("one", x.unpaid(0), 9);
            x.propose(0, 0, 1);
            x.approve(0);
            x.certify(0);
            Check.same("two", x.unpaid(0), 18);
            x.pay(0, 9);
            Check.same("one of two is paid", x.unpaid(0), 9);
            x.undo();
            x.undo();
            Check.same("one again", x.unpaid(0), 9);
            x.pay(0, 9);
            Check.same("paid", x.unpaid(0), 0);
        });
        Says.that(19, "Returns its stage.", () -> {
            ConstructionLedger x = Texts.ledger(Given.LEAST);
            for (int stage = 0; stage <= 2; stage++) {
                Check.same("stage", x.stage(0), stage);
                if (stage < 2) {
                    x.nextStage(0);
                }
            }
        });
    }

    private static void margin() {
        Says.that(20, "Returns what the firm would keep of the present sum of its contract after it has paid the"
                + " present sums of the subcontracts directly under it; it may be negative.", () -> {
            String text = "project 0;main 0 0 0;sub 0 0 0 0 0;sub 0 0 0 0 0;sub 1 0 0 0 0;item 1 1 5;item 2 1 6;";
            Check.same("no present sum", Texts.ledger(text).margin(0), -11);
            Check.same("one less", Texts.ledger(text + "item 0 1 10;").margin(0), -1);
            Check.same("just enough", Texts.ledger(text + "item 0 1 11;").margin(0), 0);
            Check.same("one more", Texts.ledger(text + "item 0 1 12;").margin(0), 1);
            Check.same("nothing under it", Texts.ledger(text).margin(2), 6);
            Check.same("not those farther below", Texts.ledger(text + "item 3 1 9;").margin(0), -11);
            Check.same("only those under it", Texts.ledger(text + "item 3 1 9;").margin(1), -4);
            Check.same("seven under it", Texts.ledger(Given.LEAST + "sub0 0 0 0 0;".repeat(7)
                    + "item7 1 1;item1 1 1;item4 1 1;").margin(0), -3);
        });
    }

    private static void accounts() {
        Says.that(21, "- `account`: 0 for the owner, k + 1 for firm k", () -> {
            ConstructionLedger x = Given.done("project 9;main 0 0 0;" + "sub 0 0 0 0 0;".repeat(7) + "item 0 1 4;");
            Given.payMain(x, 4);
            Check.same("owner", x.account(0), 5);
            Check.same("firm 0", x.account(1), 4);
            Check.same("firm 7", x.account(8), 0);
        });
        Says.that(21, "Throws `IndexOutOfBoundsException` if account is negative"
                + " or greater than the number of contracts", () -> {
            for (int account : new int[] {LOWEST, -1, 4, 5, 9, HIGHEST}) {
                Refused.index("account " + account, Given::busy, x -> x.account(account));
            }
            Check.same("the last one", Given.busy().account(3), 0);
            Check.same("the owner without a project", new ConstructionLedger().account(0), 0);
            Refused.index("firm 0 without a project", ConstructionLedger::new, x -> x.account(1));
            ConstructionLedger eight = Texts.ledger(Given.LEAST + "sub0 0 0 0 0;".repeat(7));
            Check.same("the last of eight", eight.account(8), 0);
            Check.noIndex("beyond eight", () -> eight.account(9));
        });
    }

    private static void certificates() {
        Says.that(27, "Returns whether it is blocked.", () -> {
            ConstructionLedger x = Given.busy();
            Check.no("not linked", x.isBlocked(0));
            Check.no("main", x.isBlocked(1));
            Check.yes("linked", x.isBlocked(2));
        });
        Says.that(25, "Returns its open amount.", () -> {
            ConstructionLedger x = Given.done("project 9;main 0 0 0;item 0 1 9;");
            x.certify(0);
            Check.same("nothing paid", x.openAmount(0), 9);
            x.settle(1);
            Check.same("all paid", x.openAmount(0), 0);
        });
    }

    private static void dueBetween() {
        Says.that(28, "Returns the sum of the open amounts of all certificates whose due day is from the first to the"
                + " last day; 0 if to is less than from.", () -> {
            ConstructionLedger x = Given.done("project 9;main 0 0 5;sub 0 0 0 7 0;item 0 1 9;item 1 1 8;");
            Check.same("no certificate", x.dueBetween(0, 99), 0);
            x.certify(0);
            x.certify(1);
            Check.same("up to the day before", x.dueBetween(0, 4), 0);
            Check.same("up to the day", x.dueBetween(0, 5), 9);
            Check.same("from the day", x.dueBetween(5, 6), 9);
            Check.same("one day", x.dueBetween(5, 5), 9);
            Check.same("from the day behind", x.dueBetween(6, 6), 0);
            Check.same("both", x.dueBetween(5, 7), 17);
            Check.same("from the last", x.dueBetween(7, HIGHEST), 8);
            Check.same("behind the last", x.dueBetween(8, HIGHEST), 0);
            Check.same("to is 1 less", x.dueBetween(6, 5), 0);
            Check.same("to is less, both due days between", x.dueBetween(8, 4), 0);
            Check.same("the widest", x.dueBetween(LOWEST, HIGHEST), 17);
            Check.same("the widest turned round", x.dueBetween(HIGHEST, LOWEST), 0);
            x.pay(0, 8);
            Check.same("1 is open", x.dueBetween(5, 5), 1);
            x.pay(0, 1);
            Check.same("0 is open", x.dueBetween(5, 5), 0);
            for (int change = 0; change < 3; change++) {
                x.undo();
            }
            Check.same("the last one is not issued", x.dueBetween(LOWEST, HIGHEST), 9);
        });
    }

    private static void settleDays() {
        Says.that(29, "Predicts how many days of settlement are needed until a certificate has been paid completely.", () -> {
            ConstructionLedger x = Given.done("project 8;main 0 0 0;item 0 1 9;");
            x.certify(0);
            Check.same("1 too little", x.settleDays(0, 200), -1);
            x.deposit(1);
            Check.same("just enough", x.settleDays(0, 200), 1);
            x.pay(0, 8);
            Check.same("1 is open", x.settleDays(0, 200), 1);
            x.pay(0, 1);
            Check.same("0 is open", x.settleDays(0, 200), 0);
        });
        Says.that(29, "- `limit`: 0 to 200", () -> {
            ConstructionLedger x = Given.busy();
            Check.same("least", x.settleDays(0, 0), -1);
            Check.same("most", x.settleDays(1, 200), 7);
        });
        Says.that(29, "Returns the smallest such number, 0 to limit; -1 if limit days are not enough.", () -> {
            ConstructionLedger x = Given.done("project 99;main 0 0 60;item 0 1 9;");
            x.certify(0);
            Check.same("none are not enough", x.settleDays(0, 0), -1);
            Check.same("60 are not enough", x.settleDays(0, 60), -1);
            Check.same("61 are enough", x.settleDays(0, 61), 61);
            Check.same("no more are needed", x.settleDays(0, 200), 61);
            x.pass(60);
            Check.same("on the due day", x.settleDays(0, 1), 1);
            x.pay(0, 9);
            Check.same("paid, limit 0", x.settleDays(0, 0), 0);
            Check.same("paid, limit 200", x.settleDays(0, 200), 0);
            manyDays();
        });
        Says.that(29, "Throws `IllegalArgumentException` if limit is out of range", () -> {
            for (int limit : new int[] {LOWEST, -1, 201, HIGHEST}) {
                Refused.argument("limit " + limit, Given::busy, x -> x.settleDays(0, limit));
            }
        });
    }

    /** As many days as a chain of eight can need, and days beyond the last one that settle allows. */
    private static void manyDays() {
        StringBuilder text = new StringBuilder("project 9;main 0 0 60;item 0 1 9;");
        for (int k = 1; k < 8; k++) {
            text.append("sub ").append(k - 1).append(" 0 0 60 0;item ").append(k).append(" 1 9;");
        }
        ConstructionLedger chain = Given.done(text.toString());
        for (int k = 7; k >= 0; k--) {
            chain.certify(k);
        }
        Check.same("main", chain.settleDays(7, 200), 61);
        Check.same("the last of the chain", chain.settleDays(0, 68), 68);
        Check.same("its last day is missing", chain.settleDays(0, 67), -1);
        ConstructionLedger end = Given.atDay("project 9;main 0 0 60;item 0 1 9;", 99960);
        end.certify(0);
        Check.same("beyond day 100000", end.settleDays(0, 200), 61);
        end.pass(40);
        Check.same("from day 100000 on", end.settleDays(0, 21), 21);
        Check.same("one day fewer", end.settleDays(0, 20), -1);
    }

    private static void variations() {
        Says.that(31, "Returns whether it is approved.", () -> {
            ConstructionLedger x = Given.busy();
            Check.no("first", x.isApproved(1));
            Check.yes("approved", x.isApproved(0));
            Check.no("last", x.isApproved(2));
        });
        Says.that(32, "Returns by how much the full value of its item would change if it were approved now;"
                + " 0 if it is approved, or if the quantity would be negative.", () -> {
            ConstructionLedger x = Texts.ledger("project 0;main 0 0 0;item 0 10 7;rate 1000*excess;");
            for (int change : new int[] {-11, -10, -9, -1, 1, 2, 3, 4}) {
                x.propose(0, 0, change);
            }
            long[] worth = {0, -70, -63, -7, 7, 14, 1014, 4014};
            for (int v = 0; v < worth.length; v++) {
                Check.same("variation " + v, x.variationWorth(v), worth[v]);
            }
            x.approve(4);
            Check.same("approved", x.variationWorth(4), 0);
            Check.same("the quantity would be 0 now", x.variationWorth(0), -77);
            x.approve(6);
            Check.same("back over the bound", x.variationWorth(1), 28 - 84 - 2 * 2000);
        });
    }

    private static void liens() {
        Says.that(34, "Returns its claim.", () -> {
            ConstructionLedger x = Given.busy();
            Check.same("filed", x.claim(0), x.unpaid(1));
            Check.same("withdrawn", x.claim(1), 0);
        });
        Says.that(35, "- `k`: position in the order of priority, from 0 (withdrawn liens included)", () -> {
            ConstructionLedger x = Given.liens(new int[] {2, 0, 1}, new int[] {5, 5, 5});
            x.withdrawLien(1);
            x.withdrawLien(0);
            Check.same("position 0", x.priority(0), 1);
            Check.same("position 1", x.priority(1), 2);
            Check.same("position 2", x.priority(2), 0);
        });
        Says.that(35, "Returns the lien at this position.", () -> {
            Check.same("the only one", Given.liens(new int[] {3}, new int[] {5}).priority(0), 0);
        });
        Says.that(36, "No money is paid.", () -> {
            ConstructionLedger x = Given.busy();
            String before = Trace.state(x);
            x.share(0, 99999999);
            x.share(0, 1);
            Check.yes("nothing changes", before.equals(Trace.state(x)));
        });
        Says.that(36, "- `sum`: 0 to 99999999", () -> {
            ConstructionLedger x = Given.liens(new int[] {1}, new int[] {5});
            Check.same("least", x.share(0, 0), 0);
            Check.same("most", x.share(0, 99999999), 5);
        });
        Says.that(36, "Returns what the lien gets.", () -> {
            ConstructionLedger x = Given.liens(new int[] {1}, new int[] {5});
            Check.same("nothing", x.share(0, 0), 0);
            Check.same("a part", x.share(0, 4), 4);
            Check.same("all", x.share(0, 5), 5);
            Check.same("no more than all", x.share(0, 6), 5);
            x.withdrawLien(0);
            Check.same("withdrawn", x.share(0, 6), 0);
        });
        Says.that(36, "Throws `IllegalArgumentException` if sum is out of range", () -> {
            for (int sum : new int[] {LOWEST, -1, 100000000, HIGHEST}) {
                Refused.argument("sum " + sum, Given::busy, x -> x.share(0, sum));
            }
        });
    }
}

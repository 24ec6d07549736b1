/** The document's sections 'Setup text' and 'The constants'. */
final class TextEdges {
    private static final String SECTION = "Setup text";
    private static final int SYNTAX = ConstructionLedger.SYNTAX_ERROR;
    private static final int RANGE = ConstructionLedger.OUT_OF_RANGE;
    private static final int MANY = ConstructionLedger.TOO_MANY;
    private static final int DEEP = ConstructionLedger.TOO_DEEP;
    private static final String HEAD = Given.HEAD;
    private static final String SUB = "sub 0 1 1 1 1;";

    private TextEdges() {
    }

    static void all() {
        size();
        setup();
        statement();
        rate();
        runs();
        spaces();
        numbers();
        once();
        declared();
        firstError();
        syntaxErrors();
        otherErrors();
        constants();
    }

    static void accepts(String text, int contracts) {
        ConstructionLedger x = new ConstructionLedger();
        Check.same("answer to " + text, Texts.load(x, text), contracts);
        Check.same("offset in " + text, x.errorOffset(), -1);
        Check.same("contracts of " + text, x.contractCount(), contracts);
    }

    static void refuses(String text, int code, int offset) {
        ConstructionLedger x = new ConstructionLedger();
        Check.same("answer to " + text, Texts.load(x, text), code);
        Check.same("offset in " + text, x.errorOffset(), offset);
        Check.same("contracts without " + text, x.contractCount(), 0);
    }

    private static void size() {
        Says.that(SECTION, "The setup text is read from an input buffer of at most 900 bytes.", () -> {
            accepts(HEAD + " ".repeat(900 - 21), 1);
            accepts("project " + "0".repeat(900 - 21) + "7;main 1 2 3;", 1);
            refuses(HEAD + " ".repeat(900 - 22) + ".", SYNTAX, 899);
            refuses("project 7;main 1 2 3" + " ".repeat(880), SYNTAX, 900);
            longRate();
        });
    }

    /** 433 operands and 432 operations in the 900 bytes. */
    private static void longRate() {
        String text = Given.LEAST + "item0 1 1;" + "rate " + "1+".repeat(432) + "9;";
        ConstructionLedger x = Texts.ledger(text);
        Check.same("the whole buffer", text.length(), 900);
        Check.same("the last operand", x.specialRate(0, 0), 432 + 9);
        Texts.load(x, Given.LEAST + "item0 1 1;");
        Check.same("nothing stays of it", x.specialRate(0, 0), 1);
    }

    private static void setup() {
        Says.that(SECTION, "setup     = \"project\" number \";\" \"main\" number number number \";\" { statement \";\" }", () -> {
            accepts("project 7;main 1 2 3;", 1);
            accepts("project 7;main 1 2 3;threshold 1;", 1);
            accepts("project 7;main 1 2 3;threshold 1;rate 1;" + SUB, 2);
            refuses("", SYNTAX, 0);
            refuses("main 1 2 3;", SYNTAX, 0);
            refuses("project;main 1 2 3;", SYNTAX, 7);
            refuses("project 7 8;main 1 2 3;", SYNTAX, 10);
            refuses("project 7 main 1 2 3;", SYNTAX, 10);
            refuses("project 7;sub 0 1 1 1 1;", SYNTAX, 10);
            refuses("project 7;main;", SYNTAX, 14);
            refuses("project 7;main 1 2;", SYNTAX, 18);
            refuses("project 7;main 1 2 3 4;", SYNTAX, 21);
            refuses("project 7;main 1 2 3", SYNTAX, 20);
            refuses(HEAD + ";", SYNTAX, 21);
            refuses(HEAD + "threshold 1", SYNTAX, 32);
            refuses(HEAD + "threshold 1;;", SYNTAX, 33);
            refuses(HEAD + "threshold 1 rate 1;", SYNTAX, 33);
            refuses(HEAD + "project 7;", SYNTAX, 21);
            refuses(HEAD + "main 1 2 3;", SYNTAX, 21);
        });
    }

    private static void statement() {
        Says.that(SECTION, "statement = \"sub\" number number number number number [ \"linked\" ]"
                + " | \"item\" number number number | \"threshold\" number | \"rate\" sum", () -> {
            accepts(HEAD + "sub 0 1 1 1 1;", 2);
            accepts(HEAD + "sub 0 1 1 1 1 linked;", 2);
            refuses(HEAD + "sub;", SYNTAX, 24);
            refuses(HEAD + "sub 0 1 1 1;", SYNTAX, 32);
            refuses(HEAD + "sub 0 1 1 1 1 1;", SYNTAX, 35);
            refuses(HEAD + "sub 0 1 1 1 linked;", SYNTAX, 33);
            refuses(HEAD + "sub 0 1 1 1 1 linked linked;", SYNTAX, 42);
            accepts(HEAD + "item 0 1 1;", 1);
            refuses(HEAD + "item;", SYNTAX, 25);
            refuses(HEAD + "item 0 1;", SYNTAX, 29);
            refuses(HEAD + "item 0 1 1 1;", SYNTAX, 32);
            refuses(HEAD + "item 0 1 1 linked;", SYNTAX, 32);
            accepts(HEAD + "threshold 1;", 1);
            refuses(HEAD + "threshold;", SYNTAX, 30);
            refuses(HEAD + "threshold 1 1;", SYNTAX, 33);
            refuses(HEAD + "threshold 1+1;", SYNTAX, 32);
            refuses(HEAD + "threshold price;", SYNTAX, 31);
            accepts(HEAD + "rate 1;", 1);
            refuses(HEAD + "rate;", SYNTAX, 25);
            refuses(HEAD + "rate 1 1;", SYNTAX, 28);
        });
    }

    private static void rate() {
        Says.that(SECTION, "sum       = term { ( \"+\" | \"-\" ) term }", () -> {
            accepts(HEAD + "rate 1;", 1);
            accepts(HEAD + "rate 1+2-3;", 1);
            refuses(HEAD + "rate 1+;", SYNTAX, 28);
            refuses(HEAD + "rate -1;", SYNTAX, 26);
            refuses(HEAD + "rate 1+-1;", SYNTAX, 28);
        });
        Says.that(SECTION, "term      = factor { ( \"*\" | \"/\" ) factor }", () -> {
            accepts(HEAD + "rate 1*2/3;", 1);
            refuses(HEAD + "rate 1*;", SYNTAX, 28);
            refuses(HEAD + "rate /1;", SYNTAX, 26);
            refuses(HEAD + "rate 1*/1;", SYNTAX, 28);
            refuses(HEAD + "rate 1%1;", SYNTAX, 27);
        });
        Says.that(SECTION, "factor    = number | \"price\" | \"first\" | \"excess\" | \"(\" sum \")\"", () -> {
            accepts(HEAD + "rate price+first+excess+(1);", 1);
            refuses(HEAD + "rate ();", SYNTAX, 27);
            refuses(HEAD + "rate (1;", SYNTAX, 28);
            refuses(HEAD + "rate 1);", SYNTAX, 27);
            refuses(HEAD + "rate (1));", SYNTAX, 29);
            refuses(HEAD + "rate (1 2);", SYNTAX, 29);
            refuses(HEAD + "rate quantity;", SYNTAX, 26);
            refuses(HEAD + "rate rate;", SYNTAX, 26);
        });
    }

    private static void runs() {
        Says.that(SECTION, "A number is a run of decimal digits; a word is a run of the letters a to z.", () -> {
            accepts("project 0123456;main 7 8 9;", 1);
            refuses("project 7/;main 1 2 3;", SYNTAX, 9);
            refuses("project 7:;main 1 2 3;", SYNTAX, 9);
            refuses("project /;main 1 2 3;", SYNTAX, 8);
            refuses("project :;main 1 2 3;", SYNTAX, 8);
            refuses("`roject 7;main 1 2 3;", SYNTAX, 0);
            refuses("{roject 7;main 1 2 3;", SYNTAX, 0);
            refuses("Project 7;main 1 2 3;", SYNTAX, 0);
            refuses("project`7;main 1 2 3;", SYNTAX, 7);
            refuses("project{7;main 1 2 3;", SYNTAX, 7);
            refuses("project 7.0;main 1 2 3;", SYNTAX, 9);
            refuses("aroject 7;main 1 2 3;", SYNTAX, 0);
            refuses("projecs 7;main 1 2 3;", SYNTAX, 0);
            refuses(HEAD + "dub 0 1 1 1 1;", SYNTAX, 21);
            refuses(HEAD + "sub 0 1 1 1 1 zinked;", SYNTAX, 35);
            refuses(HEAD + "sub 0 1 1 1 1 linkea;", SYNTAX, 35);
        });
        Says.that(SECTION, "Each run is as long as possible.", () -> {
            accepts("project7;main1 2 3;sub0 1 1 1 1linked;item1 1 1;threshold1;rate1;", 2);
            refuses("project 7;main 1 20;", SYNTAX, 19);
            refuses("project 7;main 123;", RANGE, 15);
            refuses("projectmain 7;", SYNTAX, 0);
            refuses("projec t 7;main 1 2 3;", SYNTAX, 0);
            refuses(HEAD + "rate pricefirst;", SYNTAX, 26);
            refuses(HEAD + "rates 1;", SYNTAX, 21);
            refuses(HEAD + "rat 1;", SYNTAX, 21);
            Check.same("many zeros", Texts.ledger("project " + "0".repeat(800) + "12;main 1 2 3;").account(0), 12);
        });
    }

    private static void spaces() {
        Says.that(SECTION, "Spaces (byte 32) may precede any token and may follow the last one.", () -> {
            String tight = "project7;main1 2 3;sub0 1 1 1 1linked;item1 1 1;threshold1;rate(price+1)*2;";
            String wide = "   project 7 ; main  1  2  3 ; sub 0  1  1  1  1  linked ; item 1  1  1 ;"
                    + " threshold 1 ; rate ( price + 1 ) * 2 ;   ";
            accepts(tight, 2);
            accepts(wide, 2);
            accepts(" " + tight, 2);
            accepts(tight + " ", 2);
            Check.same("the same project", Texts.ledger(wide).checksum(), Texts.ledger(tight).checksum());
            refuses(" ", SYNTAX, 1);
            refuses("  ,", SYNTAX, 2);
        });
        Says.that(SECTION, "No other byte separates tokens.", () -> {
            for (int sign = 0; sign < 256; sign++) {
                boolean digit = sign >= '0' && sign <= '9';
                String text = "project" + (char) sign + "7;main 1 2 3;";
                if (sign == ' ' || digit) {
                    accepts(text, 1);
                } else {
                    refuses(text, SYNTAX, sign >= 'a' && sign <= 'z' ? 0 : 7);
                }
                if (sign != ' ') {
                    refuses(HEAD + (char) sign, SYNTAX, 21);
                }
            }
        });
    }

    private static void numbers() {
        Says.that(SECTION, "The number of project is what the owner's account holds at first (0 to 9999999).", () -> {
            Check.same("least", Texts.ledger("project 0;main 1 2 3;").account(0), 0);
            Check.same("most", Texts.ledger("project 9999999;main 1 2 3;").account(0), 9999999);
            for (String above : new String[] {"10000000", "99999999", "100000000", "2147483648", "4294967296",
                "9223372036854775808", "18446744073709551616", "000000000010000000"}) {
                refuses("project " + above + ";main 1 2 3;", RANGE, 8);
            }
        });
        Says.that(SECTION, "The numbers of main are the retention percentage, the limit percentage and the days for"
                + " payment; those of sub are the parent, then the same three numbers, and the rank.", () -> {
            ConstructionLedger x = Given.done("project 0;main 20 3 60;sub 0 4 20 59 3;item 0 100 1;item 1 100 1;");
            Check.same("limit of main", x.retention(0), 3);
            Check.same("retention of sub", x.retention(1), 4);
            Check.same("days of main", x.dueDay(x.certify(0)), 60);
            Check.same("days of sub", x.dueDay(x.certify(1)), 59);
            refuses("project 7;main 60 1 1;", RANGE, 15);
            refuses("project 7;main 1 60 1;", RANGE, 17);
            refuses(HEAD + "sub 1 1 1 1 1;", RANGE, 25);
            refuses(HEAD + "sub 0 60 1 1 1;", RANGE, 27);
            refuses(HEAD + "sub 0 1 60 1 1;", RANGE, 29);
            refuses(HEAD + "sub 0 1 1 1 60;", RANGE, 33);
        });
        Says.that(SECTION, "The numbers of item are the contract, the first quantity and the price.", () -> {
            ConstructionLedger x = Texts.ledger(HEAD + "item 0 999 9999;item 0 1 0;");
            Check.same("most units", x.quantity(0, 0), 999);
            Check.same("highest price", x.specialRate(0, 0), 9999);
            Check.same("least units", x.quantity(0, 1), 1);
            Check.same("lowest price", x.specialRate(0, 1), 0);
            refuses(HEAD + "item 1 1 1;", RANGE, 26);
            refuses(HEAD + "item 0 9999 999;", RANGE, 28);
            refuses(HEAD + "item 0 1 10000;", RANGE, 30);
        });
        Says.that(SECTION, "The threshold is 0 to 100; it is 25 without this statement.", () -> {
            String item = "project 7;main 1 2 3;item 0 100 1;rate excess;";
            int[] excess = {101, 76, 1};
            String[] statements = {"threshold 0;", "", "threshold 100;"};
            for (int i = 0; i < 3; i++) {
                ConstructionLedger x = Texts.ledger(item + statements[i]);
                x.propose(0, 0, 101);
                x.approve(0);
                Check.same("beyond bound with " + statements[i], x.specialRate(0, 0), excess[i]);
            }
            refuses(HEAD + "threshold 101;", RANGE, 31);
            refuses(HEAD + "threshold 4294967296;", RANGE, 31);
            ConstructionLedger x = Texts.ledger(item + "threshold 0;");
            Texts.load(x, item);
            x.propose(0, 0, 26);
            x.approve(0);
            Check.same("25 again after another project", x.specialRate(0, 0), 1);
        });
        Says.that(SECTION, "A number as a factor is 0 to 9999.", () -> {
            Check.same("least", Texts.ledger(HEAD + "item 0 1 1;rate 0;").specialRate(0, 0), 0);
            Check.same("most", Texts.ledger(HEAD + "item 0 1 1;rate 9999;").specialRate(0, 0), 9999);
            refuses(HEAD + "rate 10000;", RANGE, 26);
            refuses(HEAD + "rate 1*10000;", RANGE, 28);
            refuses(HEAD + "rate (10000);", RANGE, 27);
            refuses(HEAD + "rate 4294967297;", RANGE, 26);
        });
    }

    private static void once() {
        Says.that(SECTION, "Parentheses nest at most 4 deep.", () -> {
            accepts(HEAD + "rate ((((1))));", 1);
            accepts(HEAD + "rate ((((1))))*((((1))))+((((1))*(1)));", 1);
            refuses(HEAD + "rate (((((1)))));", DEEP, 30);
            refuses(HEAD + "rate ((((1))))+(((((1)))));", DEEP, 40);
            refuses(HEAD + "rate 1+(1+(1+(1+(1+(1)))));", DEEP, 40);
            Check.same("the deepest value", Texts.ledger(HEAD + "item 0 1 1;rate 1+2*(1+2*(1+2*(1+2*(1+2*5))));")
                    .specialRate(0, 0), 191);
        });
        Says.that(SECTION, "The statements threshold and rate may each occur once.", () -> {
            accepts(HEAD, 1);
            accepts(HEAD + "threshold 1;rate 1;", 1);
            accepts(HEAD + "rate 1;threshold 1;", 1);
            refuses(HEAD + "threshold 1;threshold 1;", SYNTAX, 33);
            refuses(HEAD + "rate 1;rate 1;", SYNTAX, 28);
            refuses(HEAD + "threshold 1;rate 1;threshold 1;", SYNTAX, 40);
            ConstructionLedger x = Texts.ledger(HEAD + "threshold 1;rate 1;");
            Check.same("again in the next text", Texts.load(x, HEAD + "threshold 1;rate 1;"), 1);
            Texts.load(x, HEAD + "threshold 1;rate 1;rate");
            Check.same("again after an error", Texts.load(x, HEAD + "threshold 1;rate 1;"), 1);
        });
    }

    private static void declared() {
        Says.that(SECTION, "A contract must be declared before its items and before the subcontracts under it.", () -> {
            accepts(HEAD + SUB + "item 1 1 1;sub 1 1 1 1 1;item 2 1 1;", 3);
            refuses(HEAD + "item 1 1 1;" + SUB, RANGE, 26);
            refuses(HEAD + SUB + "item 2 1 1;" + SUB, RANGE, 40);
            refuses(HEAD + "sub 1 1 1 1 1;" + SUB, RANGE, 25);
            refuses("project 7;item 0 1 1;main 1 2 3;", SYNTAX, 10);
            ConstructionLedger x = Texts.ledger(HEAD + SUB);
            Check.same("contracts of the project before", Texts.load(x, HEAD + "item 1 1 1;"), RANGE);
            String eight = HEAD + SUB.repeat(7);
            accepts(eight + "item 7 1 1;", 8);
            refuses(eight + "item 8 1 1;", RANGE, eight.length() + 5);
        });
    }

    private static void firstError() {
        Says.that(SECTION, "The first error in the text is the one with the smallest offset.", () -> {
            refuses("project 10000000,main 99 99 99", RANGE, 8);
            refuses("project 7,main 99 99 99", SYNTAX, 9);
            refuses(HEAD + "rate 10000*(((((1", RANGE, 26);
            refuses(HEAD + "rate (((((10000", DEEP, 30);
            refuses(HEAD + SUB.repeat(7) + "sub 9 9,", MANY, 21 + 7 * 14);
            refuses(HEAD + "item 0 1 1;".repeat(6) + "item 0 0,", MANY, 21 + 6 * 11 + 5);
            refuses("," + HEAD, SYNTAX, 0);
            refuses(HEAD + ",", SYNTAX, 21);
        });
        Says.that(SECTION, "If several kinds of error have the same offset, the first one in this list counts:", () -> {
            refuses("project 7 99999999;main 1 2 3;", SYNTAX, 10);
            refuses("99999999 7;main 1 2 3;", SYNTAX, 0);
            refuses(HEAD + "threshold 1 999;", SYNTAX, 33);
            refuses(HEAD + "rate ((((1(", SYNTAX, 31);
            refuses(HEAD + "rate ((((price (1))))) ;", SYNTAX, 36);
            String full = HEAD + SUB.repeat(7);
            refuses(full + "subs 0 1 1 1 1;", SYNTAX, full.length());
            refuses(full + "item 8 1 1;", RANGE, full.length() + 5);
        });
    }

    private static void syntaxErrors() {
        Says.that(SECTION, "- SYNTAX_ERROR: a token or byte that the grammar does not allow here, at its first byte;"
                + " the end of the text, at its length, if the text ends too early;"
                + " a second threshold or rate, at its first letter.", () -> {
            refuses("   main 1 2 3;", SYNTAX, 3);
            refuses("project   main", SYNTAX, 10);
            refuses("project 7  \0", SYNTAX, 11);
            refuses("project 7;main 1 2 3;   linked", SYNTAX, 24);
            String text = HEAD + "sub 0 1 1 1 1 linked;item 1 1 1;threshold 1;rate (price+1)*2;";
            for (int end = 0; end < text.length(); end++) {
                int start = lastTokenOf(text, end);
                refusesEnd(text.substring(0, end), start);
            }
            refuses("project 7;main 1 2 3    ", SYNTAX, 24);
            refuses(HEAD + "threshold 1;   threshold 2;", SYNTAX, 36);
            refuses(HEAD + "rate 1;   rate 2;", SYNTAX, 31);
            refuses(HEAD + "rate 1;rate", SYNTAX, 28);
        });
    }

    /** Where the text is cut within a word, that word is another one, and the error is at its start. */
    private static int lastTokenOf(String text, int end) {
        int start = end;
        while (start > 0 && text.charAt(start - 1) >= 'a' && text.charAt(start - 1) <= 'z') {
            start--;
        }
        boolean cut = start < end && text.charAt(end) >= 'a' && text.charAt(end) <= 'z';
        return cut ? start : end;
    }

    private static void refusesEnd(String text, int offset) {
        if (text.endsWith(";") && text.length() >= Given.HEAD.length()) {
            accepts(text, text.contains("sub") ? 2 : 1);
        } else {
            refuses(text, SYNTAX, offset);
        }
    }

    private static void otherErrors() {
        Says.that(SECTION, "- OUT_OF_RANGE: a number outside its range, at its first digit;"
                + " this includes a parent or contract that has not been declared.", () -> {
            refuses("project   10000000;main 1 2 3;", RANGE, 10);
            refuses("project   0010000000;main 1 2 3;", RANGE, 10);
            refuses(HEAD + "item  0  0 1;", RANGE, 30);
            refuses(HEAD + "sub 1", RANGE, 25);
            refuses(HEAD + "item 1", RANGE, 26);
            accepts(HEAD + SUB + "sub 1 1 1 1 1;", 3);
            accepts(HEAD + SUB + "item 1 1 1;", 2);
        });
        Says.that(SECTION, "- TOO_MANY: a subcontract beyond the maximum number, at the first letter of its"
                + " statement; the contract of an item if it has 6 items already, at its first digit.", () -> {
            String eight = HEAD + SUB.repeat(7);
            accepts(eight, 8);
            refuses(eight + "   sub", MANY, eight.length() + 3);
            refuses(eight + SUB, MANY, eight.length());
            String six = HEAD + SUB + "item 1 1 1;".repeat(6);
            accepts(six, 2);
            accepts(six + "item 0 1 1;".repeat(6), 2);
            refuses(six + "item   1 1 1;", MANY, six.length() + 7);
            refuses(six + "item   01 1 1;", MANY, six.length() + 7);
            refuses(six + "item 1", MANY, six.length() + 5);
            refuses(six + "item 1 0 1;", MANY, six.length() + 5);
        });
        Says.that(SECTION, "- TOO_DEEP: an opening parenthesis inside 4 others, at that parenthesis.", () -> {
            accepts(HEAD + "rate ((((1))));", 1);
            accepts(HEAD + "rate (1)+(1)+(1)+(1)+(1);", 1);
            refuses(HEAD + "rate ((((  (", DEEP, 32);
            refuses(HEAD + "rate ((((1*(1)))));", DEEP, 32);
            refuses(HEAD + "rate ((((1)))+((((1)))));", DEEP, 38);
        });
    }

    private static void constants() {
        String section = "The constants";
        Says.that(section, "- `SYNTAX_ERROR = -2`: Error code of load: the text does not follow the grammar.",
                () -> refuses("project", -2, 7));
        Says.that(section, "- `OUT_OF_RANGE = -3`: Error code of load: a number is not allowed.",
                () -> refuses("project 10000000", -3, 8));
        Says.that(section, "- `TOO_MANY = -4`: Error code of load: too many contracts or items.", () -> {
            refuses(HEAD + SUB.repeat(8), -4, 21 + 7 * 14);
            refuses(HEAD + "item 0 1 1;".repeat(7), -4, 21 + 6 * 11 + 5);
        });
        Says.that(section, "- `TOO_DEEP = -5`: Error code of load: parentheses are nested too deeply.",
                () -> refuses(HEAD + "rate (((((", -5, 30));
    }
}

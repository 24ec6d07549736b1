import java.math.BigInteger;
import java.util.ArrayList;
import java.util.List;
import java.util.regex.Matcher;
import java.util.regex.Pattern;

/** The setup text's grammar once more: tokens first, then the rules over the list of tokens. */
final class TextModel {
    private static final class Bad extends RuntimeException {
        private static final long serialVersionUID = 1L;
        final int code;
        final int offset;

        Bad(int code, int offset) {
            this.code = code;
            this.offset = offset;
        }
    }

    private final List<String> tokens = new ArrayList<>();
    private final List<Integer> offsets = new ArrayList<>();
    private int at = 0;
    private final List<Integer> itemCounts = new ArrayList<>();
    private boolean threshold = false;
    private boolean rate = false;
    int code = 0;
    int offset = -1;

    TextModel(String text) {
        Matcher m = Pattern.compile(" *([0-9]+|[a-z]+|[^ ])", Pattern.DOTALL).matcher(text);
        while (m.find()) {
            tokens.add(m.group(1));
            offsets.add(m.start(1));
        }
        tokens.add("");
        offsets.add(text.length());
        try {
            setup();
            code = itemCounts.size();
        } catch (Bad bad) {
            code = bad.code;
            offset = bad.offset;
        }
    }

    private String token() {
        return tokens.get(at);
    }

    private Bad bad(int why) {
        return new Bad(why, offsets.get(at));
    }

    private void expect(String token) {
        if (!token().equals(token)) {
            throw bad(ConstructionLedger.SYNTAX_ERROR);
        }
        at++;
    }

    private int number(int low, int high) {
        if (!token().matches("[0-9]+")) {
            throw bad(ConstructionLedger.SYNTAX_ERROR);
        }
        BigInteger value = new BigInteger(token());
        if (value.compareTo(BigInteger.valueOf(low)) < 0 || value.compareTo(BigInteger.valueOf(high)) > 0) {
            throw bad(ConstructionLedger.OUT_OF_RANGE);
        }
        at++;
        return value.intValue();
    }

    private void setup() {
        expect("project");
        number(0, 9999999);
        expect(";");
        expect("main");
        number(0, 20);
        number(0, 20);
        number(0, 60);
        expect(";");
        itemCounts.add(0);
        while (!token().isEmpty()) {
            statement();
            expect(";");
        }
    }

    private void statement() {
        switch (token()) {
            case "sub":
                if (itemCounts.size() == 8) {
                    throw bad(ConstructionLedger.TOO_MANY);
                }
                at++;
                number(0, itemCounts.size() - 1);
                number(0, 20);
                number(0, 20);
                number(0, 60);
                number(0, 3);
                if (token().equals("linked")) {
                    at++;
                }
                itemCounts.add(0);
                break;
            case "item":
                at++;
                int contract = number(0, itemCounts.size() - 1);
                if (itemCounts.get(contract) == 6) {
                    at--;
                    throw bad(ConstructionLedger.TOO_MANY);
                }
                number(1, 999);
                number(0, 9999);
                itemCounts.set(contract, itemCounts.get(contract) + 1);
                break;
            case "threshold":
                if (threshold) {
                    throw bad(ConstructionLedger.SYNTAX_ERROR);
                }
                threshold = true;
                at++;
                number(0, 100);
                break;
            case "rate":
                if (rate) {
                    throw bad(ConstructionLedger.SYNTAX_ERROR);
                }
                rate = true;
                at++;
                sum(0);
                break;
            default:
                throw bad(ConstructionLedger.SYNTAX_ERROR);
        }
    }

    /** A sum of terms of factors is a list of factors with any of the four signs between. */
    private void sum(int depth) {
        factor(depth);
        while (token().matches("[-+*/]")) {
            at++;
            factor(depth);
        }
    }

    private void factor(int depth) {
        if (token().matches("price|first|excess")) {
            at++;
        } else if (token().equals("(")) {
            if (depth == 4) {
                throw bad(ConstructionLedger.TOO_DEEP);
            }
            at++;
            sum(depth + 1);
            expect(")");
        } else {
            number(0, 9999);
        }
    }
}

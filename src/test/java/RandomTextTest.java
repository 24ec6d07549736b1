/** Random texts, most of them with errors: the answer and the offset are compared with the model. */
public final class RandomTextTest {
    private static final String[] PIECES = {
        "project", "main", "sub", "item", "threshold", "rate", "linked", "price", "first", "excess",
        ";", "+", "-", "*", "/", "(", ")", " ", "  ", "0", "1", "3", "4", "20", "21", "60", "61", "100", "101",
        "999", "1000", "9999", "10000", "9999999", "10000000", "4294967297", "00000000000000000005", "a", "z", "A",
        "\0", "\t", "\n", ",", ":", "'", "{", "`", "\u007f", "\u0080", "\u00b0", "\u00ff", "linkeds", "rat",
        "sub 0 1 1 1 1;", "item 0 1 1;", "item 1 1 1;", "rate 5;", "threshold 5;", "((((", "))))", "(1)", "+(2", "rate((((", "rate 1+((((", "(((", "((",
    };

    public static void main(String[] args) {
        int[] seen = new int[6];
        Numbers numbers = new Numbers(77);
        for (int i = 0; i < 60000; i++) {
            ConstructionLedger x = new ConstructionLedger();
            String text = i % 3 == 0 ? glued(numbers) : spoilt(numbers);
            if (text.length() > 900) {
                continue;
            }
            TextModel model = new TextModel(text);
            Check.same("answer for " + text, Texts.load(x, text), model.code);
            Check.same("offset for " + text, x.errorOffset(), model.offset);
            seen[model.code < 0 ? -model.code : 0]++;
        }
        Check.yes("good texts too", seen[0] > 1000);
        for (int code = 2; code <= 5; code++) {
            Check.yes("errors of kind " + code + ": " + seen[code], seen[code] > 100);
        }
        Check.end("RandomTextTest");
    }

    private static String glued(Numbers numbers) {
        StringBuilder text = new StringBuilder("project 7;main 1 2 3;");
        int pieces = numbers.from(0, 14);
        for (int i = 0; i < pieces; i++) {
            text.append(PIECES[numbers.below(PIECES.length)]);
            if (numbers.once(3)) {
                text.append(numbers.once(2) ? " " : ";");
            }
        }
        return text.toString();
    }

    private static String spoilt(Numbers numbers) {
        StringBuilder text = new StringBuilder(RandomSetup.text(RandomSetup.state(numbers), numbers));
        int times = numbers.below(3);
        for (int i = 0; i < times; i++) {
            int at = numbers.below(text.length() + 1);
            switch (numbers.below(5)) {
                case 0:
                    int rate = text.indexOf("rate ");
                    text.insert(rate < 0 ? at : rate + 5, "(".repeat(numbers.from(1, 4)));
                    break;
                case 1:
                    text.insert(at, PIECES[numbers.below(PIECES.length)]);
                    break;
                case 2:
                    text.setLength(at);
                    break;
                case 3:
                    text.delete(at, at + numbers.below(4));
                    break;
                default:
                    int to = Math.min(text.length(), at + numbers.below(40));
                    text.insert(at, text.substring(at, to).repeat(numbers.from(1, 8)));
                    break;
            }
        }
        return text.toString();
    }
}

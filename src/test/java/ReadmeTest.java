import java.io.IOException;
import java.nio.ByteBuffer;
import java.nio.charset.StandardCharsets;
import java.nio.file.Files;
import java.nio.file.Path;
import java.util.Arrays;

/** The example of the README does what is said there. */
public final class ReadmeTest {
    private static final Path README = Path.of("README.md");
    private static final Path SOURCE = Path.of("src/test/java/ReadmeTest.java");

    public static void main(String[] args) throws IOException {
        standsInReadme();
        example();
        constants();
        Check.end("ReadmeTest");
    }

    private static void standsInReadme() throws IOException {
        String readme = Files.readString(README);
        String example = readme.substring(readme.indexOf("```java\n") + 8);
        example = example.substring(0, example.indexOf("```"));
        String source = Files.readString(SOURCE);
        for (String line : example.split("\n")) {
            String code = line.replaceAll(" *//.*", "");
            Check.yes("not tested: " + code, source.contains("        " + code + "\n"));
        }
    }

    private static void example() {
        ConstructionLedger ledger = new ConstructionLedger();
        String text = "project 50000;main 10 5 30;sub 0 10 10 14 1 linked;"
                + "item 0 100 100;item 1 50 80;threshold 20;rate price+price/4;";
        byte[] bytes = Arrays.copyOf(text.getBytes(StandardCharsets.US_ASCII), 900);
        for (int at = 0; at < text.length(); at += 20) {
            ByteBuffer words = ByteBuffer.wrap(bytes, at, 20);
            ledger.append(words.getInt(), words.getInt(), words.getInt(), words.getInt(), words.getInt());
        }
        int contracts = ledger.load(text.length());
        Check.same("contracts", contracts, 2);
        ledger.measure(1, 0, 100);
        int sub = ledger.certify(1);
        Check.same("amount of sub", ledger.amount(sub), 3600);
        ledger.measure(0, 0, 50);
        int main = ledger.certify(0);
        Check.same("amount of main", ledger.amount(main), 4500);
        boolean blocked = ledger.isBlocked(sub);
        Check.yes("sub is blocked", blocked);
        int days = ledger.settleDays(sub, 200);
        Check.same("days until sub is paid", days, 32);
        long paid = ledger.settle(days);
        Check.same("paid", paid, 8100);
        int left = ledger.undo();
        Check.same("changes left", left, 5);
    }

    /** The error codes are told with their numbers. */
    private static void constants() throws IOException {
        String readme = Files.readString(README);
        Check.yes("SYNTAX_ERROR", readme.contains("`SYNTAX_ERROR` | " + ConstructionLedger.SYNTAX_ERROR + " |"));
        Check.yes("OUT_OF_RANGE", readme.contains("`OUT_OF_RANGE` | " + ConstructionLedger.OUT_OF_RANGE + " |"));
        Check.yes("TOO_MANY", readme.contains("`TOO_MANY` | " + ConstructionLedger.TOO_MANY + " |"));
        Check.yes("TOO_DEEP", readme.contains("`TOO_DEEP` | " + ConstructionLedger.TOO_DEEP + " |"));
    }
}

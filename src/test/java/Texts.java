import java.nio.charset.StandardCharsets;
import java.util.Arrays;

/** Puts setup texts into a ledger. */
final class Texts {
    private Texts() {
    }

    static byte[] bytesOf(String text) {
        return text.getBytes(StandardCharsets.ISO_8859_1);
    }

    static int load(ConstructionLedger ledger, String text) {
        return load(ledger, bytesOf(text));
    }

    /** The buffer must be empty, or what is in it is read first. */
    static int load(ConstructionLedger ledger, byte[] text) {
        append(ledger, text);
        return ledger.load(text.length);
    }

    static void append(ConstructionLedger ledger, byte[] text) {
        byte[] padded = Arrays.copyOf(text, (text.length + 19) / 20 * 20);
        for (int i = 0; i < padded.length; i += 20) {
            ledger.append(word(padded, i), word(padded, i + 4), word(padded, i + 8),
                    word(padded, i + 12), word(padded, i + 16));
        }
    }

    static ConstructionLedger ledger(String text) {
        ConstructionLedger ledger = new ConstructionLedger();
        int answer = load(ledger, text);
        if (answer < 1) {
            throw new IllegalStateException(text + " answers " + answer + " at " + ledger.errorOffset());
        }
        return ledger;
    }

    private static int word(byte[] bytes, int at) {
        return (bytes[at] & 255) << 24 | (bytes[at + 1] & 255) << 16
                | (bytes[at + 2] & 255) << 8 | bytes[at + 3] & 255;
    }
}

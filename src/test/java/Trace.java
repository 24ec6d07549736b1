/** What a ledger answers, as one text, so that two ledgers or two moments can be compared. */
final class Trace {
    private static final int SPACES = 0x20202020;

    private Trace() {
    }

    /** All that can be asked about the project. */
    static String state(ConstructionLedger x) {
        StringBuilder all = new StringBuilder();
        all.append(x.day()).append(' ').append(x.checksum()).append(' ').append(x.account(0));
        for (int c = 0; c < x.contractCount(); c++) {
            all.append("\nc ").append(x.parent(c)).append(' ').append(x.stage(c)).append(' ')
                    .append(x.account(c + 1)).append(' ').append(x.firstSum(c)).append(' ')
                    .append(x.presentSum(c)).append(' ').append(x.grossValue(c)).append(' ')
                    .append(x.retention(c)).append(' ').append(x.certified(c)).append(' ')
                    .append(x.unpaid(c)).append(' ').append(x.overdue(c)).append(' ').append(x.margin(c));
            for (int i = 0; i < x.itemCount(c); i++) {
                all.append(" i ").append(x.quantity(c, i)).append(' ').append(x.specialRate(c, i))
                        .append(' ').append(x.itemValue(c, i));
            }
        }
        for (int c = 0; c < x.certificateCount(); c++) {
            all.append("\nz ").append(x.certificateContract(c)).append(' ').append(x.amount(c)).append(' ')
                    .append(x.openAmount(c)).append(' ').append(x.dueDay(c)).append(' ')
                    .append(x.isBlocked(c)).append(' ').append(x.settleDays(c, 30));
        }
        for (int v = 0; v < x.variationCount(); v++) {
            all.append("\nv ").append(x.isApproved(v)).append(' ').append(x.variationWorth(v));
        }
        for (int k = 0; k < x.lienCount(); k++) {
            all.append("\nl ").append(x.claim(k)).append(' ').append(x.priority(k)).append(' ')
                    .append(x.share(k, 11)).append(' ').append(x.share(k, 77));
        }
        return all.toString();
    }

    /** The state, the error offset, what is in the buffer, and what undo brings back; it uses the ledger up. */
    static String whole(ConstructionLedger x) {
        StringBuilder all = new StringBuilder(state(x));
        all.append("\ne ").append(x.errorOffset());
        int length = x.append(SPACES, SPACES, SPACES, SPACES, SPACES);
        int answer = x.load(length < 0 ? 900 : length);
        all.append("\nb ").append(length).append(' ').append(answer).append(' ').append(x.errorOffset());
        int left;
        do {
            left = x.undo();
            all.append("\nu ").append(left).append(' ').append(x.checksum());
        } while (left > 0);
        return all.toString();
    }
}

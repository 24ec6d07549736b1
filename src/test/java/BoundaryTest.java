/**
 * Each sentence of the document that names a boundary has a test of its own here, which quotes it.
 * The sentences listed below name none: where they speak of a value, its bounds are told in the
 * document's Description. No other sentence may stand in the document.
 */
public final class BoundaryTest {
    private static final String[] WITHOUT_BOUNDARY = {
        "What it is: The payment accounts of a construction project.",
        "What it is: A main contractor and subcontractors are paid by a chain of contracts.",
        "What it is: Work is measured item by item and changed by variations; certificates state what is"
            + " due, less a retention that is released in two steps; payments pass down the chain, and some "
            + "subcontractors are paid only when their payer has been paid.",
        "What it is: Firms that are not paid in time file liens, which share money by priority.",
        "What it is: The class keeps the accounts, predicts payments and distributes money among liens.",
        "Conventions: All numbers are integers.",
        "Contracts: Firm k is the firm that is paid by contract k.",
        "Setup text: Its grammar is:",
        "The constants: The constructor and the methods follow, a promise each: the signature, then what"
            + " it does.",
        "Promise 3: - `length`: the number of bytes to read",
        "Promise 9: Returns the quantity of the item.",
        "Promise 10: Returns the special rate of the item.",
        "Promise 11: Returns the value of the item.",
        "Promise 12: Returns its first sum.",
        "Promise 13: Returns its present sum.",
        "Promise 14: Returns its gross value.",
        "Promise 15: Returns its retention.",
        "Promise 16: Returns its certified value.",
        "Promise 18: Returns its overdue amount.",
        "Promise 21: Returns what the account holds.",
        "Promise 23: Returns its contract.",
        "Promise 24: Returns its amount.",
        "Promise 26: Returns its due day.",
        "Promise 28: - `from`: first day",
        "Promise 28: - `to`: last day",
        "Promise 36: Shares a sum among the liens.",
        "Promise 39: Approves a variation.",
        "Promise 40: Issues a certificate for a contract.",
        "Promise 41: Puts a contract into its next stage.",
        "Promise 43: Adds money to the owner's account.",
        "Promise 47: Withdraws a lien.",
        "Promise 49: Computes a checksum.",
        "Promise 49: Returns the checksum.",
        "Not promised: How the state is held inside the object is free, as are the speed of each call, "
            + "the text of toString and the behaviour of equals and hashCode.",
        "Not promised: Use of one object from several threads at once is not promised to be safe.",
        "Not promised: Nothing is promised beyond the answers and state changes described above, and "
            + "nothing about an object after its 512th call.",
    };

    public static void main(String[] args) {
        ContractEdges.all();
        ItemEdges.all();
        CertificateEdges.all();
        LienEdges.all();
        TextEdges.all();
        ChangeEdges.all();
        QueryEdges.all();
        CallEdges.all();
        Says.leavesOnly(WITHOUT_BOUNDARY);
        Check.end("BoundaryTest");
    }
}

import java.util.function.LongSupplier;

/** Random runs of calls, each compared with the model, the exceptions' classes too. */
public final class RandomRunsTest {
    private static final int RUNS = 1500;
    private static final int CALLS = 180;

    private final Numbers numbers;
    private final ConstructionLedger x = new ConstructionLedger();
    private final Model model = new Model();
    private final StringBuilder said = new StringBuilder();
    private boolean fine = true;

    private RandomRunsTest(int run) {
        numbers = new Numbers(run);
    }

    public static void main(String[] args) {
        int wrong = 0;
        long refused = 0;
        for (int run = 0; run < RUNS && wrong < 3; run++) {
            RandomRunsTest test = new RandomRunsTest(run);
            test.run(run);
            if (!test.fine) {
                wrong++;
                System.out.println("run " + run + ":\n" + test.said);
            }
            refused += test.refusals;
        }
        Check.same("runs unlike the model", wrong, 0);
        Check.yes("some calls are refused", refused > RUNS);
        Check.end("RandomRunsTest");
    }

    private long refusals = 0;

    private void run(int run) {
        if (run % 10 != 0) {
            load();
        }
        for (int i = 0; i < CALLS && fine; i++) {
            if (numbers.once(3)) {
                query();
            } else {
                change();
            }
        }
        if (fine) {
            same("checksum", x::checksum, model::checksum);
        }
    }

    private void load() {
        Model.State state = RandomSetup.state(numbers);
        String text = RandomSetup.text(state, numbers);
        same("load " + text, () -> Texts.load(x, text), () -> {
            model.load(state);
            return state.contracts.size();
        });
    }

    /** Mostly an index that exists. */
    private int index(int count) {
        return count == 0 || numbers.once(25) ? numbers.from(-1, count + 1) : numbers.below(count);
    }

    private int contract() {
        return index(model.s.contracts.size());
    }

    private int item(int contract) {
        return contract < 0 || contract >= model.s.contracts.size() ? numbers.below(7)
                : index(model.s.contracts.get(contract).items.size());
    }

    private int certificate() {
        int count = model.s.certificates.size();
        return count > 0 && numbers.once(2) ? count - 1 - numbers.below(Math.min(4, count)) : index(count);
    }

    private void change() {
        int c = contract();
        int i = item(c);
        int z = certificate();
        switch (numbers.below(19)) {
            case 0: case 1: case 2:
                int progress = numbers.once(3) ? 100 : numbers.from(-1, 101);
                same("measure " + c + " " + i + " " + progress,
                        () -> x.measure(c, i, progress), () -> model.measure(c, i, progress));
                break;
            case 3: case 4:
                int change = numbers.once(20) ? numbers.from(-1000, 1000) * numbers.below(2) : numbers.from(-40, 60);
                same("propose " + c + " " + i + " " + change,
                        () -> x.propose(c, i, change), () -> model.propose(c, i, change));
                break;
            case 5: case 6:
                int v = index(model.s.variations.size());
                same("approve " + v, () -> x.approve(v), () -> model.approve(v));
                break;
            case 7: case 8: case 9: case 10:
                same("certify " + c, () -> x.certify(c), () -> model.certify(c));
                break;
            case 11:
                same("nextStage " + c, () -> x.nextStage(c), () -> model.nextStage(c));
                break;
            case 12: case 13:
                pay(z);
                break;
            case 14:
                deposit();
                break;
            case 15:
                int days = numbers.once(8) ? numbers.from(0, 366) : numbers.from(1, 9);
                same("pass " + days, () -> x.pass(days), () -> model.pass(days));
                break;
            case 16:
                int settled = numbers.once(8) ? numbers.from(0, 101) : numbers.from(1, 9);
                same("settle " + settled, () -> x.settle(settled), () -> model.settle(settled));
                break;
            case 17:
                same("fileLien " + c, () -> x.fileLien(c), () -> model.fileLien(c));
                break;
            default:
                seldom();
                break;
        }
    }

    private void seldom() {
        switch (numbers.below(4)) {
            case 0:
                int l = index(model.s.liens.size());
                same("withdrawLien " + l, () -> x.withdrawLien(l), () -> model.withdrawLien(l));
                break;
            case 1:
                int times = numbers.from(1, numbers.once(5) ? 10 : 2);
                for (int k = 0; k < times; k++) {
                    same("undo", x::undo, model::undo);
                }
                break;
            case 2:
                if (numbers.once(4)) {
                    load();
                }
                break;
            default:
                String bad = "project 5;main 1 1";
                same("load bad", () -> Texts.load(x, bad), () -> -2);
                break;
        }
    }

    private void pay(int z) {
        long open = z >= 0 && z < model.s.certificates.size() ? model.openAmount(z) : 5;
        int amount = numbers.once(10) ? numbers.from(-1, 1)
                : (int) Math.min(Integer.MAX_VALUE, numbers.once(3) ? open + numbers.from(-1, 1)
                        : open / numbers.from(1, 4));
        same("pay " + z + " " + amount, () -> x.pay(z, amount), () -> model.pay(z, amount));
    }

    private void deposit() {
        int amount = numbers.once(6) ? numbers.from(9999000, 10001000) : numbers.from(0, 5000);
        same("deposit " + amount, () -> x.deposit(amount), () -> model.deposit(amount));
    }

    private void query() {
        int c = contract();
        int i = item(c);
        switch (numbers.below(8)) {
            case 0:
                same("quantity", () -> x.quantity(c, i), () -> model.quantity(c, i));
                same("specialRate", () -> x.specialRate(c, i), () -> model.specialRate(c, i));
                same("itemValue", () -> x.itemValue(c, i), () -> model.itemValue(c, i));
                break;
            case 1:
                same("parent", () -> x.parent(c), () -> model.parent(c));
                same("itemCount", () -> x.itemCount(c), () -> model.itemCount(c));
                same("stage", () -> x.stage(c), () -> model.stage(c));
                same("firstSum", () -> x.firstSum(c), () -> model.firstSum(c));
                same("presentSum", () -> x.presentSum(c), () -> model.presentSum(c));
                same("margin", () -> x.margin(c), () -> model.margin(c));
                break;
            case 2:
                same("grossValue", () -> x.grossValue(c), () -> model.grossValue(c));
                same("retention", () -> x.retention(c), () -> model.retention(c));
                same("certified", () -> x.certified(c), () -> model.certified(c));
                same("unpaid", () -> x.unpaid(c), () -> model.unpaid(c));
                same("overdue", () -> x.overdue(c), () -> model.overdue(c));
                break;
            case 3:
                same("account", () -> x.account(c), () -> model.account(c));
                same("day", x::day, () -> model.s.day);
                same("contracts", x::contractCount, () -> model.s.contracts.size());
                same("certificates", x::certificateCount, () -> model.s.certificates.size());
                same("variations", x::variationCount, () -> model.s.variations.size());
                same("liens", x::lienCount, () -> model.s.liens.size());
                break;
            case 4:
                queryCertificate(certificate());
                break;
            case 5:
                int v = index(model.s.variations.size());
                same("isApproved", () -> x.isApproved(v) ? 1 : 0, () -> model.isApproved(v) ? 1 : 0);
                same("variationWorth", () -> x.variationWorth(v), () -> model.variationWorth(v));
                break;
            case 6:
                queryLien(index(model.s.liens.size()));
                break;
            default:
                same("checksum", x::checksum, model::checksum);
                break;
        }
    }

    private void queryCertificate(int z) {
        same("certificateContract", () -> x.certificateContract(z), () -> model.certificateContract(z));
        same("amount", () -> x.amount(z), () -> model.amount(z));
        same("openAmount", () -> x.openAmount(z), () -> model.openAmount(z));
        same("dueDay", () -> x.dueDay(z), () -> model.dueDay(z));
        same("isBlocked", () -> x.isBlocked(z) ? 1 : 0, () -> model.isBlocked(z) ? 1 : 0);
        int limit = numbers.once(4) ? numbers.from(-1, 201) : numbers.from(0, 30);
        same("settleDays " + z + " " + limit, () -> x.settleDays(z, limit), () -> model.settleDays(z, limit));
        int from = model.s.day + numbers.from(-30, 30);
        int to = from + numbers.from(-3, 30);
        same("dueBetween", () -> x.dueBetween(from, to), () -> model.dueBetween(from, to));
    }

    private void queryLien(int l) {
        same("claim", () -> x.claim(l), () -> model.claim(l));
        same("priority", () -> x.priority(l), () -> model.priority(l));
        long all = 0;
        for (int k = 0; k < model.s.liens.size(); k++) {
            all += model.claim(k);
        }
        int sum = numbers.once(10) ? numbers.from(99999998, 100000000)
                : numbers.from(-1, (int) Math.min(99999999, all + 5));
        same("share " + l + " " + sum, () -> x.share(l, sum), () -> model.share(l, sum));
    }

    private void same(String what, LongSupplier got, LongSupplier want) {
        if (!fine) {
            return;
        }
        String due = answer(want);
        String is = answer(got);
        said.append(what).append(" = ").append(is).append('\n');
        if (due.startsWith("throws")) {
            refusals++;
        }
        if (!due.equals(is)) {
            fine = false;
            said.append("  due is ").append(due).append('\n');
        }
    }

    private static String answer(LongSupplier call) {
        try {
            return Long.toString(call.getAsLong());
        } catch (RuntimeException e) {
            return "throws." + e.getClass().getSimpleName();
        }
    }
}

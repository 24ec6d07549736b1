import java.util.ArrayDeque;
import java.util.ArrayList;
import java.util.Comparator;
import java.util.List;

/**
 * The document once more, written as literally as possible and without regard to time and room, so
 * that random runs can be compared with it. A method that throws does so before it changes anything.
 */
final class Model {
    /** A rate expression: a leaf ("price", "first", "excess" or a number) or an operation. */
    static final class Rate {
        String sign;
        Rate left;
        Rate right;

        Rate(String sign, Rate left, Rate right) {
            this.sign = sign;
            this.left = left;
            this.right = right;
        }

        long value(long price, long first, long excess) {
            if (left == null) {
                switch (sign) {
                    case "price": return price;
                    case "first": return first;
                    case "excess": return excess;
                    default: return Long.parseLong(sign);
                }
            }
            long a = left.value(price, first, excess);
            long b = right.value(price, first, excess);
            long c = sign.equals("+") ? a + b : sign.equals("-") ? a - b : sign.equals("*") ? a * b
                    : b == 0 ? 0 : (Math.abs(a) / Math.abs(b)) * Long.signum(a) * Long.signum(b);
            return c > 1000000 ? 1000000 : c < -1000000 ? -1000000 : c;
        }
    }

    static final class Item {
        int first;
        int price;
        int progress;
    }

    static final class Contract {
        int parent;
        int retention;
        int limit;
        int days;
        int rank;
        boolean linked;
        int stage;
        long account;
        List<Item> items = new ArrayList<>();
    }

    static final class Variation {
        int contract;
        int item;
        int change;
        boolean approved;
    }

    static final class Certificate {
        int contract;
        long amount;
        long paid;
        int issued;
        int due;

        long open() {
            return amount - paid;
        }
    }

    static final class Lien {
        int contract;
        long amount;
        int filed;
        boolean withdrawn;
    }

    static final class State {
        int day;
        long owner;
        int threshold = 25;
        Rate rate;
        List<Contract> contracts = new ArrayList<>();
        List<Variation> variations = new ArrayList<>();
        List<Certificate> certificates = new ArrayList<>();
        List<Lien> liens = new ArrayList<>();

        State copy() {
            State to = new State();
            to.day = day;
            to.owner = owner;
            to.threshold = threshold;
            to.rate = rate;
            for (Contract c : contracts) {
                Contract d = new Contract();
                d.parent = c.parent;
                d.retention = c.retention;
                d.limit = c.limit;
                d.days = c.days;
                d.rank = c.rank;
                d.linked = c.linked;
                d.stage = c.stage;
                d.account = c.account;
                for (Item i : c.items) {
                    Item j = new Item();
                    j.first = i.first;
                    j.price = i.price;
                    j.progress = i.progress;
                    d.items.add(j);
                }
                to.contracts.add(d);
            }
            for (Variation v : variations) {
                Variation w = new Variation();
                w.contract = v.contract;
                w.item = v.item;
                w.change = v.change;
                w.approved = v.approved;
                to.variations.add(w);
            }
            for (Certificate c : certificates) {
                Certificate d = new Certificate();
                d.contract = c.contract;
                d.amount = c.amount;
                d.paid = c.paid;
                d.issued = c.issued;
                d.due = c.due;
                to.certificates.add(d);
            }
            for (Lien l : liens) {
                Lien m = new Lien();
                m.contract = l.contract;
                m.amount = l.amount;
                m.filed = l.filed;
                m.withdrawn = l.withdrawn;
                to.liens.add(m);
            }
            return to;
        }
    }

    State s = new State();
    private final ArrayDeque<State> history = new ArrayDeque<>();

    private void keep() {
        history.addLast(s.copy());
        if (history.size() > 8) {
            history.removeFirst();
        }
    }

    private static void index(int i, int size) {
        if (i < 0 || i >= size) {
            throw new IndexOutOfBoundsException();
        }
    }

    private static void range(long v, long low, long high) {
        if (v < low || v > high) {
            throw new IllegalArgumentException();
        }
    }

    private static void state(boolean fine) {
        if (!fine) {
            throw new IllegalStateException();
        }
    }

    private Contract contract(int c) {
        index(c, s.contracts.size());
        return s.contracts.get(c);
    }

    private Item item(int c, int i) {
        index(i, contract(c).items.size());
        return s.contracts.get(c).items.get(i);
    }

    private Certificate certificate(int c) {
        index(c, s.certificates.size());
        return s.certificates.get(c);
    }

    private Variation variation(int v) {
        index(v, s.variations.size());
        return s.variations.get(v);
    }

    private Lien lien(int l) {
        index(l, s.liens.size());
        return s.liens.get(l);
    }

    void load(State fresh) {
        keep();
        s = fresh.copy();
    }

    int undo() {
        if (history.isEmpty()) {
            return -1;
        }
        s = history.removeLast();
        return history.size();
    }

    int parent(int c) {
        return contract(c).parent;
    }

    int itemCount(int c) {
        return contract(c).items.size();
    }

    int quantity(int c, int i) {
        int q = item(c, i).first;
        for (Variation v : s.variations) {
            if (v.approved && v.contract == c && v.item == i) {
                q += v.change;
            }
        }
        return q;
    }

    private long rateAt(Item it, long excess) {
        long r = s.rate == null ? it.price : s.rate.value(it.price, it.first, excess);
        return Math.max(0, Math.min(99999, r));
    }

    private long fullValue(Item it, int q) {
        long bound = it.first + it.first * s.threshold / 100;
        long full = 0;
        long rate = rateAt(it, Math.max(0, q - bound));
        for (int unit = 1; unit <= q; unit++) {
            full += unit <= bound ? it.price : rate;
        }
        return full;
    }

    int specialRate(int c, int i) {
        Item it = item(c, i);
        int q = quantity(c, i);
        return (int) rateAt(it, Math.max(0, q - (it.first + it.first * s.threshold / 100)));
    }

    long itemValue(int c, int i) {
        return fullValue(item(c, i), quantity(c, i)) * item(c, i).progress / 100;
    }

    long firstSum(int c) {
        long sum = 0;
        for (Item it : contract(c).items) {
            sum += (long) it.first * it.price;
        }
        return sum;
    }

    long presentSum(int c) {
        long sum = 0;
        for (int i = 0; i < itemCount(c); i++) {
            sum += fullValue(item(c, i), quantity(c, i));
        }
        return sum;
    }

    long grossValue(int c) {
        long sum = 0;
        for (int i = 0; i < itemCount(c); i++) {
            sum += itemValue(c, i);
        }
        return sum;
    }

    long retention(int c) {
        Contract k = contract(c);
        long basic = Math.min(grossValue(c) * k.retention / 100, firstSum(c) * k.limit / 100);
        return k.stage == 0 ? basic : k.stage == 1 ? basic / 2 : 0;
    }

    long certified(int c) {
        contract(c);
        return s.certificates.stream().filter(z -> z.contract == c).mapToLong(z -> z.amount).sum();
    }

    long unpaid(int c) {
        contract(c);
        return s.certificates.stream().filter(z -> z.contract == c).mapToLong(Certificate::open).sum();
    }

    long overdue(int c) {
        contract(c);
        return s.certificates.stream().filter(z -> z.contract == c && z.due < s.day)
                .mapToLong(Certificate::open).sum();
    }

    int stage(int c) {
        return contract(c).stage;
    }

    long margin(int c) {
        long rest = presentSum(c);
        for (int k = 0; k < s.contracts.size(); k++) {
            if (s.contracts.get(k).parent == c) {
                rest -= presentSum(k);
            }
        }
        return rest;
    }

    long account(int a) {
        index(a, s.contracts.size() + 1);
        return a == 0 ? s.owner : s.contracts.get(a - 1).account;
    }

    int certificateContract(int c) {
        return certificate(c).contract;
    }

    long amount(int c) {
        return certificate(c).amount;
    }

    long openAmount(int c) {
        return certificate(c).open();
    }

    int dueDay(int c) {
        return certificate(c).due;
    }

    boolean isBlocked(int c) {
        Certificate z = certificate(c);
        Contract k = contract(z.contract);
        if (!k.linked) {
            return false;
        }
        return s.certificates.stream()
                .anyMatch(o -> o.contract == k.parent && o.open() > 0 && o.issued <= z.issued);
    }

    long dueBetween(int from, int to) {
        return s.certificates.stream().filter(z -> z.due >= from && z.due <= to)
                .mapToLong(Certificate::open).sum();
    }

    private long payerAccount(int contract) {
        return account(contract(contract).parent + 1);
    }

    private void move(Certificate z, long sum) {
        Contract k = contract(z.contract);
        if (k.parent < 0) {
            s.owner -= sum;
        } else {
            contract(k.parent).account -= sum;
        }
        k.account += sum;
        z.paid += sum;
    }

    private long oneDay() {
        long paid = 0;
        List<Integer> due = new ArrayList<>();
        for (int i = 0; i < s.certificates.size(); i++) {
            if (dueDay(i) <= s.day) {
                due.add(i);
            }
        }
        due.sort(Comparator.comparingInt(this::dueDay));
        for (int i : due) {
            if (!isBlocked(i)) {
                long sum = Math.min(openAmount(i), payerAccount(certificateContract(i)));
                move(certificate(i), sum);
                paid += sum;
            }
        }
        s.day++;
        return paid;
    }

    int settleDays(int c, int limit) {
        certificate(c);
        range(limit, 0, 200);
        State kept = s;
        s = s.copy();
        int answer = -1;
        for (int n = 0; n <= limit && answer < 0; n++) {
            if (openAmount(c) == 0) {
                answer = n;
            } else {
                oneDay();
            }
        }
        s = kept;
        return answer;
    }

    boolean isApproved(int v) {
        return variation(v).approved;
    }

    long variationWorth(int v) {
        Variation w = variation(v);
        int q = quantity(w.contract, w.item);
        if (w.approved || q + w.change < 0) {
            return 0;
        }
        Item it = item(w.contract, w.item);
        return fullValue(it, q + w.change) - fullValue(it, q);
    }

    long claim(int l) {
        Lien m = lien(l);
        return m.withdrawn ? 0 : Math.min(m.amount, unpaid(m.contract));
    }

    private List<Integer> byPriority() {
        List<Integer> all = new ArrayList<>();
        for (int i = 0; i < s.liens.size(); i++) {
            all.add(i);
        }
        all.sort(Comparator.comparingInt((Integer l) -> contract(lien(l).contract).rank)
                .thenComparingInt(l -> lien(l).filed).thenComparingInt(l -> l));
        return all;
    }

    int priority(int k) {
        index(k, s.liens.size());
        return byPriority().get(k);
    }

    long share(int l, int sum) {
        lien(l);
        range(sum, 0, 99999999);
        long[] got = new long[s.liens.size()];
        long left = sum;
        for (int rank = 0; rank <= 3; rank++) {
            List<Integer> here = new ArrayList<>();
            long claims = 0;
            for (int i : byPriority()) {
                if (contract(lien(i).contract).rank == rank) {
                    here.add(i);
                    claims += claim(i);
                }
            }
            long before = left;
            for (int i : here) {
                got[i] = before >= claims ? claim(i) : claim(i) * before / claims;
                left -= got[i];
            }
            if (before < claims) {
                for (int i : here) {
                    if (left > 0 && claim(i) > got[i]) {
                        got[i]++;
                        left--;
                    }
                }
                break;
            }
        }
        return got[l];
    }

    int measure(int c, int i, int progress) {
        item(c, i);
        range(progress, 0, 100);
        keep();
        int old = item(c, i).progress;
        item(c, i).progress = progress;
        return old;
    }

    int propose(int c, int i, int change) {
        item(c, i);
        range(change, -999, 999);
        range(Math.abs(change), 1, 999);
        state(s.variations.size() < 20);
        keep();
        Variation v = new Variation();
        v.contract = c;
        v.item = i;
        v.change = change;
        s.variations.add(v);
        return s.variations.size() - 1;
    }

    int approve(int v) {
        Variation w = variation(v);
        state(!w.approved && quantity(w.contract, w.item) + w.change >= 0);
        keep();
        w.approved = true;
        return quantity(w.contract, w.item);
    }

    int certify(int c) {
        Contract k = contract(c);
        long amount = grossValue(c) - retention(c) - certified(c);
        state(amount > 0 && s.certificates.size() < 40);
        keep();
        Certificate z = new Certificate();
        z.contract = c;
        z.amount = amount;
        z.issued = s.day;
        z.due = s.day + k.days;
        s.certificates.add(z);
        return s.certificates.size() - 1;
    }

    int nextStage(int c) {
        Contract k = contract(c);
        state(k.stage < 2);
        state(k.stage == 1 || k.items.stream().noneMatch(i -> i.progress < 100));
        keep();
        k.stage++;
        return k.stage;
    }

    long pay(int c, int amount) {
        Certificate z = certificate(c);
        range(amount, 1, z.open());
        state(!isBlocked(c) && payerAccount(z.contract) >= amount);
        keep();
        move(z, amount);
        return z.open();
    }

    long deposit(int amount) {
        range(amount, 1, 9999999);
        state(!s.contracts.isEmpty() && s.owner + amount <= 999999999);
        keep();
        s.owner += amount;
        return s.owner;
    }

    int pass(int days) {
        range(days, 1, 365);
        state(!s.contracts.isEmpty() && s.day + days <= 100000);
        keep();
        s.day += days;
        return s.day;
    }

    long settle(int days) {
        range(days, 1, 100);
        state(!s.contracts.isEmpty() && s.day + days <= 100000);
        keep();
        long paid = 0;
        for (int i = 0; i < days; i++) {
            paid += oneDay();
        }
        return paid;
    }

    int fileLien(int c) {
        long amount = overdue(c);
        state(amount != 0 && s.liens.size() < 12);
        for (int l = 0; l < s.liens.size(); l++) {
            state(lien(l).contract != c || claim(l) <= 0);
        }
        keep();
        Lien m = new Lien();
        m.contract = c;
        m.amount = amount;
        m.filed = s.day;
        s.liens.add(m);
        return s.liens.size() - 1;
    }

    long withdrawLien(int l) {
        state(!lien(l).withdrawn);
        keep();
        long before = claim(l);
        lien(l).withdrawn = true;
        return before;
    }

    long checksum() {
        List<Long> numbers = new ArrayList<>();
        numbers.add((long) s.day);
        numbers.add(s.owner);
        for (int c = 0; c < s.contracts.size(); c++) {
            numbers.add(contract(c).account);
            numbers.add((long) contract(c).stage);
            numbers.add(grossValue(c));
            numbers.add(certified(c));
        }
        for (Certificate z : s.certificates) {
            numbers.add(z.open());
        }
        for (int l = 0; l < s.liens.size(); l++) {
            numbers.add(claim(l));
        }
        numbers.add((long) s.variations.size());
        long sum = 0;
        for (long n : numbers) {
            sum = 31 * sum + n;
        }
        return sum;
    }
}

/**
 * The payment accounts of a construction project. The numbered promises of the project's document
 * say what each call answers; README.md shows how the class is used.
 */
public final class ConstructionLedger {
    public static final int SYNTAX_ERROR = -2;
    public static final int OUT_OF_RANGE = -3;
    public static final int TOO_MANY = -4;
    public static final int TOO_DEEP = -5;

    private static final int BUFFER_BYTES = 900;
    private static final int APPENDED_BYTES = 20;
    private static final int MAX_CONTRACTS = 8;
    private static final int MAX_ITEMS = 6;
    private static final int MAX_VARIATIONS = 20;
    private static final int MAX_CERTIFICATES = 40;
    private static final int MAX_LIENS = 12;
    private static final int MAX_CHANGE = 999;
    private static final int MAX_FORECAST_DAYS = 200;
    private static final int MAX_SHARED_SUM = 99999999;
    private static final int MAX_DEPOSIT = 9999999;
    private static final long MAX_OWNER_ACCOUNT = 999999999;
    private static final int MAX_PASSED_DAYS = 365;
    private static final int MAX_SETTLED_DAYS = 100;
    private static final int LAST_DAY = 100000;
    private static final int UNDO_STEPS = 8;
    // The present state and those to go back to.
    private static final int STATES = UNDO_STEPS + 1;
    private static final int NO_CERTIFICATE = -1;

    private final SetupReader reader = new SetupReader();
    private final Project[] states = new Project[STATES];
    private int present = 0;
    private int undoSteps = 0;
    private final Project forecast = new Project();

    public ConstructionLedger() {
        for (int i = 0; i < STATES; i++) {
            states[i] = new Project();
        }
    }

    public int append(int w0, int w1, int w2, int w3, int w4) {
        if (reader.filled + APPENDED_BYTES > BUFFER_BYTES) {
            return -1;
        }
        reader.addBytes(w0);
        reader.addBytes(w1);
        reader.addBytes(w2);
        reader.addBytes(w3);
        reader.addBytes(w4);
        return reader.filled;
    }

    public int load(int length) throws IllegalArgumentException {
        checkRange(length, 0, reader.filled);
        int error = reader.read(length);
        if (error != SetupReader.NO_ERROR) {
            return error;
        }
        Project project = beginChange();
        project.copyFrom(reader.draft);
        return project.contracts.count;
    }

    public int errorOffset() {
        return reader.errorAt;
    }

    public int day() {
        return project().day;
    }

    public int contractCount() {
        return project().contracts.count;
    }

    public int parent(int contract) throws IndexOutOfBoundsException {
        checkContract(contract);
        return project().contracts.parent[contract];
    }

    public int itemCount(int contract) throws IndexOutOfBoundsException {
        checkContract(contract);
        return project().items.count[contract];
    }

    public int quantity(int contract, int item) throws IndexOutOfBoundsException {
        checkItem(contract, item);
        return project().items.quantity[Items.slotOf(contract, item)];
    }

    public int specialRate(int contract, int item) throws IndexOutOfBoundsException {
        checkItem(contract, item);
        Project project = project();
        return project.items.specialRateOf(Items.slotOf(contract, item), project.pricing);
    }

    public long itemValue(int contract, int item) throws IndexOutOfBoundsException {
        checkItem(contract, item);
        Project project = project();
        return project.items.valueOf(Items.slotOf(contract, item), project.pricing);
    }

    public long firstSum(int contract) throws IndexOutOfBoundsException {
        checkContract(contract);
        return project().items.firstSumOf(contract);
    }

    public long presentSum(int contract) throws IndexOutOfBoundsException {
        checkContract(contract);
        return project().presentSumOf(contract);
    }

    public long grossValue(int contract) throws IndexOutOfBoundsException {
        checkContract(contract);
        return project().grossOf(contract);
    }

    public long retention(int contract) throws IndexOutOfBoundsException {
        checkContract(contract);
        return project().retentionOf(contract, project().grossOf(contract));
    }

    public long certified(int contract) throws IndexOutOfBoundsException {
        checkContract(contract);
        return project().certificates.certifiedOf(contract);
    }

    public long unpaid(int contract) throws IndexOutOfBoundsException {
        checkContract(contract);
        return project().certificates.unpaidOf(contract);
    }

    public long overdue(int contract) throws IndexOutOfBoundsException {
        checkContract(contract);
        return project().overdueOf(contract);
    }

    public int stage(int contract) throws IndexOutOfBoundsException {
        checkContract(contract);
        return project().contracts.stage[contract];
    }

    public long margin(int contract) throws IndexOutOfBoundsException {
        checkContract(contract);
        return project().marginOf(contract);
    }

    public long account(int account) throws IndexOutOfBoundsException {
        checkIndex(account, project().contracts.count + 1);
        return project().accounts[account];
    }

    public int certificateCount() {
        return project().certificates.count;
    }

    public int certificateContract(int certificate) throws IndexOutOfBoundsException {
        checkCertificate(certificate);
        return project().certificates.contract[certificate];
    }

    public long amount(int certificate) throws IndexOutOfBoundsException {
        checkCertificate(certificate);
        return project().certificates.amount[certificate];
    }

    public long openAmount(int certificate) throws IndexOutOfBoundsException {
        checkCertificate(certificate);
        return project().certificates.open[certificate];
    }

    public int dueDay(int certificate) throws IndexOutOfBoundsException {
        checkCertificate(certificate);
        return project().certificates.due[certificate];
    }

    public boolean isBlocked(int certificate) throws IndexOutOfBoundsException {
        checkCertificate(certificate);
        return project().isHeldBack(certificate);
    }

    public long dueBetween(int from, int to) {
        return project().certificates.openDueBetween(from, to);
    }

    public int settleDays(int certificate, int limit)
            throws IndexOutOfBoundsException, IllegalArgumentException {
        checkCertificate(certificate);
        checkRange(limit, 0, MAX_FORECAST_DAYS);
        forecast.copyFrom(project());
        forecast.settleUntilPaid(limit, certificate);
        return forecast.certificates.isPaid(certificate) ? forecast.day - project().day : -1;
    }

    public int variationCount() {
        return project().variations.count;
    }

    public boolean isApproved(int variation) throws IndexOutOfBoundsException {
        checkVariation(variation);
        return project().variations.approved[variation];
    }

    public long variationWorth(int variation) throws IndexOutOfBoundsException {
        checkVariation(variation);
        return project().worthOf(variation);
    }

    public int lienCount() {
        return project().liens.count;
    }

    public long claim(int lien) throws IndexOutOfBoundsException {
        checkLien(lien);
        return project().claimOf(lien);
    }

    public int priority(int k) throws IndexOutOfBoundsException {
        checkLien(k);
        return project().lienAt(k);
    }

    public long share(int lien, int sum)
            throws IndexOutOfBoundsException, IllegalArgumentException {
        checkLien(lien);
        checkRange(sum, 0, MAX_SHARED_SUM);
        return project().shareOf(lien, sum);
    }

    public int measure(int contract, int item, int progress)
            throws IndexOutOfBoundsException, IllegalArgumentException {
        checkItem(contract, item);
        checkRange(progress, 0, 100);
        int slot = Items.slotOf(contract, item);
        Items items = beginChange().items;
        int previous = items.progress[slot];
        items.progress[slot] = progress;
        return previous;
    }

    public int propose(int contract, int item, int change)
            throws IndexOutOfBoundsException, IllegalArgumentException, IllegalStateException {
        checkItem(contract, item);
        checkRange(change, -MAX_CHANGE, MAX_CHANGE);
        if (change == 0) {
            throw new IllegalArgumentException("a change is not 0");
        }
        checkState(project().variations.count < MAX_VARIATIONS);
        return beginChange().variations.add(Items.slotOf(contract, item), change);
    }

    public int approve(int variation) throws IndexOutOfBoundsException, IllegalStateException {
        checkVariation(variation);
        checkState(!project().variations.approved[variation]);
        int quantity = project().quantityWith(variation);
        checkState(quantity >= 0);
        Project project = beginChange();
        project.variations.approved[variation] = true;
        project.items.quantity[project.variations.slot[variation]] = quantity;
        return quantity;
    }

    public int certify(int contract) throws IndexOutOfBoundsException, IllegalStateException {
        checkContract(contract);
        long amount = project().amountToCertify(contract);
        checkState(amount > 0 && project().certificates.count < MAX_CERTIFICATES);
        Project project = beginChange();
        int due = project.day + project.contracts.paymentDays[contract];
        return project.certificates.add(contract, amount, project.day, due);
    }

    public int nextStage(int contract) throws IndexOutOfBoundsException, IllegalStateException {
        checkContract(contract);
        int stage = project().contracts.stage[contract];
        checkState(stage < 2);
        checkState(stage > 0 || project().items.areComplete(contract));
        beginChange().contracts.stage[contract] = stage + 1;
        return stage + 1;
    }

    public long pay(int certificate, int amount)
            throws IndexOutOfBoundsException, IllegalArgumentException, IllegalStateException {
        checkCertificate(certificate);
        if (amount < 1 || amount > project().certificates.open[certificate]) {
            throw new IllegalArgumentException("not from 1 to the open amount");
        }
        checkState(!project().isHeldBack(certificate));
        checkState(project().payerHolds(certificate) >= amount);
        Project project = beginChange();
        project.transfer(certificate, amount);
        return project.certificates.open[certificate];
    }

    public long deposit(int amount) throws IllegalArgumentException, IllegalStateException {
        checkRange(amount, 1, MAX_DEPOSIT);
        checkProject();
        long sum = project().accounts[0] + amount;
        checkState(sum <= MAX_OWNER_ACCOUNT);
        beginChange().accounts[0] = sum;
        return sum;
    }

    public int pass(int days) throws IllegalArgumentException, IllegalStateException {
        checkRange(days, 1, MAX_PASSED_DAYS);
        checkProject();
        int day = project().day + days;
        checkState(day <= LAST_DAY);
        beginChange().day = day;
        return day;
    }

    public long settle(int days) throws IllegalArgumentException, IllegalStateException {
        checkRange(days, 1, MAX_SETTLED_DAYS);
        checkProject();
        checkState(project().day + days <= LAST_DAY);
        return beginChange().settleUntilPaid(days, NO_CERTIFICATE);
    }

    public int fileLien(int contract) throws IndexOutOfBoundsException, IllegalStateException {
        checkContract(contract);
        long amount = project().overdueOf(contract);
        checkState(amount > 0 && !project().hasClaim(contract));
        checkState(project().liens.count < MAX_LIENS);
        Project project = beginChange();
        return project.liens.add(contract, amount, project.day);
    }

    public long withdrawLien(int lien) throws IndexOutOfBoundsException, IllegalStateException {
        checkLien(lien);
        checkState(!project().liens.withdrawn[lien]);
        long before = project().claimOf(lien);
        beginChange().liens.withdrawn[lien] = true;
        return before;
    }

    public int undo() {
        if (undoSteps == 0) {
            return -1;
        }
        present = present == 0 ? STATES - 1 : present - 1;
        undoSteps--;
        return undoSteps;
    }

    public long checksum() {
        return project().checksumOfAll();
    }

    private Project project() {
        return states[present];
    }

    // To be called when nothing more can fail: what it answers is the present state from then on.
    private Project beginChange() {
        Project before = project();
        present = present + 1 < STATES ? present + 1 : 0;
        undoSteps = Math.min(undoSteps + 1, UNDO_STEPS);
        project().copyFrom(before);
        return project();
    }

    private void checkContract(int contract) {
        checkIndex(contract, project().contracts.count);
    }

    private void checkItem(int contract, int item) {
        checkContract(contract);
        checkIndex(item, project().items.count[contract]);
    }

    private void checkCertificate(int certificate) {
        checkIndex(certificate, project().certificates.count);
    }

    private void checkVariation(int variation) {
        checkIndex(variation, project().variations.count);
    }

    private void checkLien(int lien) {
        checkIndex(lien, project().liens.count);
    }

    private void checkProject() {
        checkState(project().contracts.count > 0);
    }

    private static void checkIndex(int index, int count) {
        if (index < 0 || index >= count) {
            throw new IndexOutOfBoundsException("no such index");
        }
    }

    private static void checkRange(int value, int low, int high) {
        if (value < low || value > high) {
            throw new IllegalArgumentException("out of range");
        }
    }

    private static void checkState(boolean allowed) {
        if (!allowed) {
            throw new IllegalStateException("not possible now");
        }
    }

    /** The contracts, as they were declared, and the stage of each. */
    private static final class Contracts {
        int count = 0;
        final int[] parent = new int[MAX_CONTRACTS];
        final int[] retentionPercent = new int[MAX_CONTRACTS];
        final int[] limitPercent = new int[MAX_CONTRACTS];
        final int[] paymentDays = new int[MAX_CONTRACTS];
        final int[] rank = new int[MAX_CONTRACTS];
        final boolean[] linked = new boolean[MAX_CONTRACTS];
        final int[] stage = new int[MAX_CONTRACTS];

        void add(int itsParent, int retention, int limit, int days, int itsRank, boolean isLinked) {
            if (count >= MAX_CONTRACTS) {
                return;
            }
            parent[count] = itsParent;
            retentionPercent[count] = retention;
            limitPercent[count] = limit;
            paymentDays[count] = days;
            rank[count] = itsRank;
            linked[count] = isLinked;
            stage[count] = 0;
            count++;
        }

        void copyFrom(Contracts other) {
            count = other.count;
            System.arraycopy(other.parent, 0, parent, 0, count);
            System.arraycopy(other.retentionPercent, 0, retentionPercent, 0, count);
            System.arraycopy(other.limitPercent, 0, limitPercent, 0, count);
            System.arraycopy(other.paymentDays, 0, paymentDays, 0, count);
            System.arraycopy(other.rank, 0, rank, 0, count);
            for (int i = 0; i < count; i++) {
                linked[i] = other.linked[i];
            }
            System.arraycopy(other.stage, 0, stage, 0, count);
        }
    }

    /**
     * The threshold, and the rate expression with each operation behind its two operands. Only the
     * reader changes it, and only while it reads, so that all later states share it.
     */
    private static final class Pricing {
        static final int USUAL_THRESHOLD = 25;
        static final int MAX_NUMBER = 9999;
        static final int PRICE = -1;
        static final int FIRST = -2;
        static final int EXCESS = -3;
        static final int PLUS = -4;
        static final int MINUS = -5;
        static final int TIMES = -6;
        static final int OVER = -7;
        static final int MAX_RATE = 99999;
        static final int MAX_RESULT = 1000000;
        // Five levels of sums wait with at most two operands each while a further one is taken.
        static final int STACK_PLACES = 16;

        int threshold = USUAL_THRESHOLD;
        int length = 0;
        final int[] code;
        final int[] stack = new int[STACK_PLACES];

        // Each part of the expression takes a byte of the text, so there are not more of them.
        Pricing(int textBytes) {
            code = new int[Math.max(0, Math.min(textBytes, BUFFER_BYTES))];
        }

        void add(int part) {
            if (length < code.length) {
                code[length] = part;
                length++;
            }
        }

        long fullValue(int price, int first, int quantity) {
            int normal = Math.min(quantity, boundOf(first));
            int excess = quantity - normal;
            long value = (long) normal * price;
            if (excess > 0) {
                value += (long) excess * rate(price, first, excess);
            }
            return value;
        }

        int excessOf(int first, int quantity) {
            return Math.max(0, quantity - boundOf(first));
        }

        int boundOf(int first) {
            return first + first * threshold / 100;
        }

        int rate(int price, int first, int excess) {
            if (length == 0) {
                return price;
            }
            int size = 0;
            for (int i = 0; i < length; i++) {
                int part = code[i];
                if (part > PLUS && size < STACK_PLACES) {
                    stack[size] = operand(part, price, first, excess);
                    size++;
                } else if (part <= PLUS && size >= 2) {
                    size--;
                    stack[size - 1] = result(part, stack[size - 1], stack[size]);
                }
            }
            return Math.max(0, Math.min(MAX_RATE, stack[0]));
        }

        private static int operand(int part, int price, int first, int excess) {
            switch (part) {
                case PRICE:
                    return price;
                case FIRST:
                    return first;
                case EXCESS:
                    return excess;
                default:
                    return part;
            }
        }

        private static int result(int operation, int left, int right) {
            long value;
            switch (operation) {
                case PLUS:
                    value = (long) left + right;
                    break;
                case MINUS:
                    value = (long) left - right;
                    break;
                case TIMES:
                    value = (long) left * right;
                    break;
                default:
                    value = right == 0 ? 0 : left / right;
                    break;
            }
            return (int) Math.max(-MAX_RESULT, Math.min(MAX_RESULT, value));
        }
    }

    /** The items of all contracts; those of one contract stand side by side. */
    private static final class Items {
        static final int SLOTS = MAX_CONTRACTS * MAX_ITEMS;

        final int[] count = new int[MAX_CONTRACTS];
        final int[] first = new int[SLOTS];
        final int[] price = new int[SLOTS];
        final int[] quantity = new int[SLOTS];
        final int[] progress = new int[SLOTS];

        static int slotOf(int contract, int item) {
            return contract * MAX_ITEMS + item;
        }

        void clear() {
            for (int i = 0; i < MAX_CONTRACTS; i++) {
                count[i] = 0;
            }
        }

        void add(int contract, int firstQuantity, int itsPrice) {
            if (count[contract] >= MAX_ITEMS) {
                return;
            }
            int slot = slotOf(contract, count[contract]);
            first[slot] = firstQuantity;
            price[slot] = itsPrice;
            quantity[slot] = firstQuantity;
            progress[slot] = 0;
            count[contract]++;
        }

        void copyFrom(Items other) {
            System.arraycopy(other.count, 0, count, 0, MAX_CONTRACTS);
            System.arraycopy(other.first, 0, first, 0, SLOTS);
            System.arraycopy(other.price, 0, price, 0, SLOTS);
            System.arraycopy(other.quantity, 0, quantity, 0, SLOTS);
            System.arraycopy(other.progress, 0, progress, 0, SLOTS);
        }

        int specialRateOf(int slot, Pricing pricing) {
            int excess = pricing.excessOf(first[slot], quantity[slot]);
            return pricing.rate(price[slot], first[slot], excess);
        }

        long fullValueOf(int slot, int units, Pricing pricing) {
            return pricing.fullValue(price[slot], first[slot], units);
        }

        long valueOf(int slot, Pricing pricing) {
            long full = pricing.fullValue(price[slot], first[slot], quantity[slot]);
            return full * progress[slot] / 100;
        }

        long firstSumOf(int contract) {
            long sum = 0;
            for (int i = 0; i < count[contract]; i++) {
                int slot = slotOf(contract, i);
                sum += (long) first[slot] * price[slot];
            }
            return sum;
        }

        boolean areComplete(int contract) {
            for (int i = 0; i < count[contract]; i++) {
                if (progress[slotOf(contract, i)] < 100) {
                    return false;
                }
            }
            return true;
        }
    }

    private static final class Certificates {
        int count = 0;
        final int[] contract = new int[MAX_CERTIFICATES];
        final long[] amount = new long[MAX_CERTIFICATES];
        final long[] open = new long[MAX_CERTIFICATES];
        final int[] issued = new int[MAX_CERTIFICATES];
        final int[] due = new int[MAX_CERTIFICATES];

        int add(int itsContract, long itsAmount, int day, int dueDay) {
            if (count >= MAX_CERTIFICATES) {
                return -1;
            }
            contract[count] = itsContract;
            amount[count] = itsAmount;
            open[count] = itsAmount;
            issued[count] = day;
            due[count] = dueDay;
            count++;
            return count - 1;
        }

        void copyFrom(Certificates other) {
            count = other.count;
            System.arraycopy(other.contract, 0, contract, 0, count);
            System.arraycopy(other.amount, 0, amount, 0, count);
            System.arraycopy(other.open, 0, open, 0, count);
            System.arraycopy(other.issued, 0, issued, 0, count);
            System.arraycopy(other.due, 0, due, 0, count);
        }

        long certifiedOf(int itsContract) {
            long sum = 0;
            for (int i = 0; i < count; i++) {
                if (contract[i] == itsContract) {
                    sum += amount[i];
                }
            }
            return sum;
        }

        long unpaidOf(int itsContract) {
            long sum = 0;
            for (int i = 0; i < count; i++) {
                if (contract[i] == itsContract) {
                    sum += open[i];
                }
            }
            return sum;
        }

        long overdueOf(int itsContract, int day) {
            long sum = 0;
            for (int i = 0; i < count; i++) {
                if (contract[i] == itsContract && due[i] < day) {
                    sum += open[i];
                }
            }
            return sum;
        }

        long openDueBetween(int from, int to) {
            long sum = 0;
            for (int i = 0; i < count; i++) {
                if (from <= due[i] && due[i] <= to) {
                    sum += open[i];
                }
            }
            return sum;
        }

        boolean hasOpenUpTo(int itsContract, int day) {
            for (int i = 0; i < count; i++) {
                if (contract[i] == itsContract && open[i] > 0 && issued[i] <= day) {
                    return true;
                }
            }
            return false;
        }

        boolean isPaid(int certificate) {
            return certificate >= 0 && certificate < count && open[certificate] == 0;
        }

        int nextDueDay(int day, int otherwise) {
            int next = otherwise;
            for (int i = 0; i < count; i++) {
                if (due[i] >= day && due[i] < next) {
                    next = due[i];
                }
            }
            return next;
        }

        // Certificates of the same due day stay in the order of their indexes.
        void sortByDueDay(int[] order) {
            for (int i = 0; i < count && i < order.length; i++) {
                int place = i;
                while (place > 0 && due[order[place - 1]] > due[i]) {
                    order[place] = order[place - 1];
                    place--;
                }
                order[place] = i;
            }
        }
    }

    private static final class Variations {
        int count = 0;
        final int[] slot = new int[MAX_VARIATIONS];
        final int[] change = new int[MAX_VARIATIONS];
        final boolean[] approved = new boolean[MAX_VARIATIONS];

        int add(int itsSlot, int itsChange) {
            if (count >= MAX_VARIATIONS) {
                return -1;
            }
            slot[count] = itsSlot;
            change[count] = itsChange;
            approved[count] = false;
            count++;
            return count - 1;
        }

        void copyFrom(Variations other) {
            count = other.count;
            System.arraycopy(other.slot, 0, slot, 0, count);
            System.arraycopy(other.change, 0, change, 0, count);
            for (int i = 0; i < count; i++) {
                approved[i] = other.approved[i];
            }
        }
    }

    private static final class Liens {
        int count = 0;
        final int[] contract = new int[MAX_LIENS];
        final long[] amount = new long[MAX_LIENS];
        final int[] filed = new int[MAX_LIENS];
        final boolean[] withdrawn = new boolean[MAX_LIENS];

        int add(int itsContract, long itsAmount, int day) {
            if (count >= MAX_LIENS) {
                return -1;
            }
            contract[count] = itsContract;
            amount[count] = itsAmount;
            filed[count] = day;
            withdrawn[count] = false;
            count++;
            return count - 1;
        }

        void copyFrom(Liens other) {
            count = other.count;
            System.arraycopy(other.contract, 0, contract, 0, count);
            System.arraycopy(other.amount, 0, amount, 0, count);
            System.arraycopy(other.filed, 0, filed, 0, count);
            for (int i = 0; i < count; i++) {
                withdrawn[i] = other.withdrawn[i];
            }
        }
    }

    /** One state of the project, with all that undo must bring back. */
    private static final class Project {
        int day = 0;
        final long[] accounts = new long[MAX_CONTRACTS + 1];
        final Contracts contracts = new Contracts();
        Pricing pricing = new Pricing(0);
        final Items items = new Items();
        final Variations variations = new Variations();
        final Certificates certificates = new Certificates();
        final Liens liens = new Liens();
        final int[] order = new int[MAX_CERTIFICATES];

        void clear(int textBytes) {
            day = 0;
            for (int i = 0; i < accounts.length; i++) {
                accounts[i] = 0;
            }
            contracts.count = 0;
            pricing = new Pricing(textBytes);
            items.clear();
            variations.count = 0;
            certificates.count = 0;
            liens.count = 0;
        }

        void copyFrom(Project other) {
            day = other.day;
            System.arraycopy(other.accounts, 0, accounts, 0, accounts.length);
            contracts.copyFrom(other.contracts);
            pricing = other.pricing;
            items.copyFrom(other.items);
            variations.copyFrom(other.variations);
            certificates.copyFrom(other.certificates);
            liens.copyFrom(other.liens);
        }

        long presentSumOf(int contract) {
            long sum = 0;
            for (int i = 0; i < items.count[contract]; i++) {
                int slot = Items.slotOf(contract, i);
                sum += items.fullValueOf(slot, items.quantity[slot], pricing);
            }
            return sum;
        }

        long grossOf(int contract) {
            long sum = 0;
            for (int i = 0; i < items.count[contract]; i++) {
                sum += items.valueOf(Items.slotOf(contract, i), pricing);
            }
            return sum;
        }

        long retentionOf(int contract, long gross) {
            long byGross = gross * contracts.retentionPercent[contract] / 100;
            long byLimit = items.firstSumOf(contract) * contracts.limitPercent[contract] / 100;
            long basic = Math.min(byGross, byLimit);
            switch (contracts.stage[contract]) {
                case 0:
                    return basic;
                case 1:
                    return basic / 2;
                default:
                    return 0;
            }
        }

        long amountToCertify(int contract) {
            long gross = grossOf(contract);
            long net = gross - retentionOf(contract, gross);
            return net - certificates.certifiedOf(contract);
        }

        long marginOf(int contract) {
            long rest = presentSumOf(contract);
            for (int i = 0; i < contracts.count; i++) {
                if (contracts.parent[i] == contract) {
                    rest -= presentSumOf(i);
                }
            }
            return rest;
        }

        long overdueOf(int contract) {
            return certificates.overdueOf(contract, day);
        }

        int quantityWith(int variation) {
            return items.quantity[variations.slot[variation]] + variations.change[variation];
        }

        long worthOf(int variation) {
            int slot = variations.slot[variation];
            int quantity = quantityWith(variation);
            if (variations.approved[variation] || quantity < 0) {
                return 0;
            }
            return items.fullValueOf(slot, quantity, pricing)
                    - items.fullValueOf(slot, items.quantity[slot], pricing);
        }

        boolean isHeldBack(int certificate) {
            int contract = certificates.contract[certificate];
            return contracts.linked[contract] && certificates.hasOpenUpTo(
                    contracts.parent[contract], certificates.issued[certificate]);
        }

        // The owner is the parent -1, so a payer's account stands one behind its contract's index.
        long payerHolds(int certificate) {
            return accounts[contracts.parent[certificates.contract[certificate]] + 1];
        }

        void transfer(int certificate, long sum) {
            int contract = certificates.contract[certificate];
            accounts[contracts.parent[contract] + 1] -= sum;
            accounts[contract + 1] += sum;
            certificates.open[certificate] -= sum;
        }

        long settleUntilPaid(int days, int certificate) {
            certificates.sortByDueDay(order);
            int end = day + days;
            long paid = 0;
            for (int i = 0; i < days && day < end && !certificates.isPaid(certificate); i++) {
                long today = settleOneDay();
                paid += today;
                // Where nothing was paid, nothing can be until a further certificate falls due.
                if (today == 0) {
                    day = certificates.nextDueDay(day, end);
                }
            }
            return paid;
        }

        long settleOneDay() {
            long paid = 0;
            for (int i = 0; i < certificates.count; i++) {
                if (certificates.due[order[i]] <= day) {
                    paid += payFromAccount(order[i]);
                }
            }
            day++;
            return paid;
        }

        long payFromAccount(int certificate) {
            long sum = Math.min(certificates.open[certificate], payerHolds(certificate));
            if (sum <= 0 || isHeldBack(certificate)) {
                return 0;
            }
            transfer(certificate, sum);
            return sum;
        }

        long claimOf(int lien) {
            if (liens.withdrawn[lien]) {
                return 0;
            }
            return Math.min(liens.amount[lien], certificates.unpaidOf(liens.contract[lien]));
        }

        boolean hasClaim(int contract) {
            for (int i = 0; i < liens.count; i++) {
                if (liens.contract[i] == contract && claimOf(i) > 0) {
                    return true;
                }
            }
            return false;
        }

        int rankOf(int lien) {
            return contracts.rank[liens.contract[lien]];
        }

        boolean precedes(int lien, int other) {
            if (rankOf(lien) != rankOf(other)) {
                return rankOf(lien) < rankOf(other);
            }
            if (liens.filed[lien] != liens.filed[other]) {
                return liens.filed[lien] < liens.filed[other];
            }
            return lien < other;
        }

        int lienAt(int place) {
            for (int i = 0; i < liens.count; i++) {
                int before = 0;
                for (int k = 0; k < liens.count; k++) {
                    if (precedes(k, i)) {
                        before++;
                    }
                }
                if (before == place) {
                    return i;
                }
            }
            return -1;
        }

        long claimsOfRank(int rank) {
            long sum = 0;
            for (int i = 0; i < liens.count; i++) {
                if (rankOf(i) == rank) {
                    sum += claimOf(i);
                }
            }
            return sum;
        }

        long shareOf(int lien, long sum) {
            long left = sum;
            for (int rank = 0; rank < rankOf(lien); rank++) {
                long claims = claimsOfRank(rank);
                if (left < claims) {
                    return 0;
                }
                left -= claims;
            }
            long claims = claimsOfRank(rankOf(lien));
            return left >= claims ? claimOf(lien) : partOf(lien, left, claims);
        }

        // Only where the claims of the lien's rank are more than what is left, so never 0.
        long partOf(int lien, long left, long claims) {
            if (claims <= 0) {
                return 0;
            }
            long rest = left;
            long servedBefore = 0;
            for (int i = 0; i < liens.count; i++) {
                if (rankOf(i) == rankOf(lien)) {
                    long part = claimOf(i) * left / claims;
                    rest -= part;
                    if (claimOf(i) > part && precedes(i, lien)) {
                        servedBefore++;
                    }
                }
            }
            long own = claimOf(lien) * left / claims;
            return claimOf(lien) > own && servedBefore < rest ? own + 1 : own;
        }

        long checksumOfAll() {
            long sum = day;
            sum = 31 * sum + accounts[0];
            for (int i = 0; i < contracts.count; i++) {
                sum = 31 * sum + accounts[i + 1];
                sum = 31 * sum + contracts.stage[i];
                sum = 31 * sum + grossOf(i);
                sum = 31 * sum + certificates.certifiedOf(i);
            }
            for (int i = 0; i < certificates.count; i++) {
                sum = 31 * sum + certificates.open[i];
            }
            for (int i = 0; i < liens.count; i++) {
                sum = 31 * sum + claimOf(i);
            }
            return 31 * sum + variations.count;
        }
    }

    /**
     * Holds the input buffer and reads a setup text from it into a draft of a project. An error
     * stays, and later ones are not noted, so that each part may ask for the next one without
     * looking whether the last one was there.
     */
    private static final class SetupReader {
        static final int NO_ERROR = 0;
        // Tokens of one sign have that sign as their kind.
        static final int END = -1;
        static final int NUMBER = -2;
        static final int WORD = -3;
        static final int MAX_DEPTH = 4;
        static final int MAX_OWNER_START = 9999999;
        static final int MAX_PERCENT = 20;
        static final int MAX_PAYMENT_DAYS = 60;
        static final int MAX_RANK = 3;
        static final int MAX_FIRST = 999;
        static final int MAX_PRICE = 9999;
        // Above every range, and small enough for one more digit.
        static final int HUGE = 100000000;

        final byte[] text = new byte[BUFFER_BYTES];
        int filled = 0;
        // What a failing text leaves here is never used.
        final Project draft = new Project();
        int length = 0;
        int at = 0;
        int kind = END;
        int start = 0;
        int value = 0;
        int error = NO_ERROR;
        int errorAt = -1;
        boolean hasThreshold = false;
        boolean hasRate = false;

        void addBytes(int word) {
            for (int shift = 24; shift >= 0 && filled < BUFFER_BYTES; shift -= 8) {
                text[filled] = (byte) (word >>> shift);
                filled++;
            }
        }

        int read(int size) {
            length = Math.min(size, filled);
            filled = 0;
            at = 0;
            error = NO_ERROR;
            errorAt = -1;
            hasThreshold = false;
            hasRate = false;
            draft.clear(length);
            advance();
            readHead();
            for (int i = 0; i < length && error == NO_ERROR && kind != END; i++) {
                readStatement();
                take(';');
            }
            return error;
        }

        private void readHead() {
            takeWord("project");
            int owner = takeNumber(0, MAX_OWNER_START);
            take(';');
            takeWord("main");
            int retention = takeNumber(0, MAX_PERCENT);
            int limit = takeNumber(0, MAX_PERCENT);
            int days = takeNumber(0, MAX_PAYMENT_DAYS);
            take(';');
            if (error == NO_ERROR) {
                draft.accounts[0] = owner;
                draft.contracts.add(-1, retention, limit, days, 0, false);
            }
        }

        private void readStatement() {
            if (isWord("sub")) {
                readSub();
            } else if (isWord("item")) {
                readItem();
            } else if (isWord("threshold") && !hasThreshold) {
                hasThreshold = true;
                advance();
                draft.pricing.threshold = takeNumber(0, 100);
            } else if (isWord("rate") && !hasRate) {
                hasRate = true;
                advance();
                readSum(0);
            } else {
                failAt(start, SYNTAX_ERROR);
            }
        }

        private void readSub() {
            if (draft.contracts.count >= MAX_CONTRACTS) {
                failAt(start, TOO_MANY);
                return;
            }
            advance();
            int parent = takeNumber(0, draft.contracts.count - 1);
            int retention = takeNumber(0, MAX_PERCENT);
            int limit = takeNumber(0, MAX_PERCENT);
            int days = takeNumber(0, MAX_PAYMENT_DAYS);
            int rank = takeNumber(0, MAX_RANK);
            boolean linked = isWord("linked");
            if (linked) {
                advance();
            }
            if (error == NO_ERROR) {
                draft.contracts.add(parent, retention, limit, days, rank, linked);
            }
        }

        private void readItem() {
            advance();
            int contractAt = start;
            int contract = takeNumber(0, draft.contracts.count - 1);
            if (error == NO_ERROR && draft.items.count[contract] >= MAX_ITEMS) {
                failAt(contractAt, TOO_MANY);
            }
            int first = takeNumber(1, MAX_FIRST);
            int price = takeNumber(0, MAX_PRICE);
            if (error == NO_ERROR) {
                draft.items.add(contract, first, price);
            }
        }

        private void readSum(int depth) {
            readTerm(depth);
            for (int i = 0; i < length && error == NO_ERROR && (kind == '+' || kind == '-'); i++) {
                int operation = kind == '+' ? Pricing.PLUS : Pricing.MINUS;
                advance();
                readTerm(depth);
                draft.pricing.add(operation);
            }
        }

        private void readTerm(int depth) {
            readFactor(depth);
            for (int i = 0; i < length && error == NO_ERROR && (kind == '*' || kind == '/'); i++) {
                int operation = kind == '*' ? Pricing.TIMES : Pricing.OVER;
                advance();
                readFactor(depth);
                draft.pricing.add(operation);
            }
        }

        private void readFactor(int depth) {
            if (isWord("price")) {
                addOperand(Pricing.PRICE);
            } else if (isWord("first")) {
                addOperand(Pricing.FIRST);
            } else if (isWord("excess")) {
                addOperand(Pricing.EXCESS);
            } else if (kind != '(') {
                draft.pricing.add(takeNumber(0, Pricing.MAX_NUMBER));
            } else if (depth >= MAX_DEPTH) {
                failAt(start, TOO_DEEP);
            } else {
                advance();
                readSum(depth + 1);
                take(')');
            }
        }

        private void addOperand(int part) {
            draft.pricing.add(part);
            advance();
        }

        private void failAt(int offset, int code) {
            if (error == NO_ERROR) {
                error = code;
                errorAt = offset;
            }
        }

        private void take(int sign) {
            if (kind == sign) {
                advance();
            } else {
                failAt(start, SYNTAX_ERROR);
            }
        }

        private void takeWord(String word) {
            if (isWord(word)) {
                advance();
            } else {
                failAt(start, SYNTAX_ERROR);
            }
        }

        private int takeNumber(int low, int high) {
            int number = value;
            if (kind != NUMBER) {
                failAt(start, SYNTAX_ERROR);
            } else if (number < low || number > high) {
                failAt(start, OUT_OF_RANGE);
            }
            if (error != NO_ERROR) {
                return -1;
            }
            advance();
            return number;
        }

        private boolean isWord(String word) {
            if (kind != WORD || at - start != word.length()) {
                return false;
            }
            for (int i = 0; i < word.length(); i++) {
                if (text[start + i] != word.charAt(i)) {
                    return false;
                }
            }
            return true;
        }

        // The token that it finds stands from start up to at.
        private void advance() {
            while (at < length && text[at] == ' ') {
                at++;
            }
            start = at;
            if (at >= length) {
                kind = END;
                return;
            }
            byte sign = text[at];
            if (sign >= '0' && sign <= '9') {
                kind = NUMBER;
                value = 0;
                while (at < length && text[at] >= '0' && text[at] <= '9') {
                    value = value < HUGE ? value * 10 + text[at] - '0' : HUGE;
                    at++;
                }
            } else if (sign >= 'a' && sign <= 'z') {
                kind = WORD;
                while (at < length && text[at] >= 'a' && text[at] <= 'z') {
                    at++;
                }
            } else {
                kind = sign & 255;
                at++;
            }
        }
    }
}

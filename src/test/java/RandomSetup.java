/** Random projects, and setup texts for them. */
final class RandomSetup {
    private RandomSetup() {
    }

    static Model.State state(Numbers numbers) {
        Model.State state = new Model.State();
        state.owner = numbers.once(3) ? numbers.from(0, 9999999) : numbers.from(0, 3000);
        int contracts = numbers.from(1, 8);
        for (int i = 0; i < contracts; i++) {
            Model.Contract c = new Model.Contract();
            c.parent = i == 0 ? -1 : numbers.below(i);
            c.retention = numbers.from(0, 20);
            c.limit = numbers.from(0, 20);
            c.days = numbers.once(4) ? numbers.from(0, 60) : numbers.from(0, 6);
            c.rank = i == 0 ? 0 : numbers.from(0, 3);
            c.linked = i > 0 && numbers.once(2);
            int items = numbers.from(0, numbers.once(5) ? 6 : 2);
            for (int k = 0; k < items; k++) {
                Model.Item item = new Model.Item();
                item.first = numbers.once(5) ? numbers.from(1, 999) : numbers.from(1, 30);
                item.price = numbers.once(5) ? numbers.from(0, 9999) : numbers.from(0, 30);
                c.items.add(item);
            }
            state.contracts.add(c);
        }
        if (numbers.once(2)) {
            state.threshold = numbers.from(0, 100);
        }
        if (!numbers.once(3)) {
            state.rate = rate(numbers, 4);
        }
        return state;
    }

    private static Model.Rate rate(Numbers numbers, int depth) {
        if (depth == 0 || numbers.once(4)) {
            String[] leaves = {"price", "first", "excess", "0", "1", "7", "50", "9999"};
            return new Model.Rate(leaves[numbers.below(leaves.length)], null, null);
        }
        String[] signs = {"+", "-", "*", "/"};
        return new Model.Rate(signs[numbers.below(4)], rate(numbers, depth - 1), rate(numbers, depth - 1));
    }

    static String text(Model.State state, Numbers numbers) {
        StringBuilder text = new StringBuilder();
        text.append(space(numbers)).append("project").append(space(numbers)).append(state.owner).append(';');
        Model.Contract main = state.contracts.get(0);
        text.append("main ").append(main.retention).append(' ').append(main.limit).append(' ').append(main.days);
        text.append(space(numbers)).append(';');
        boolean early = numbers.once(2);
        if (early) {
            options(state, text, numbers);
        }
        for (int i = 0; i < state.contracts.size(); i++) {
            Model.Contract c = state.contracts.get(i);
            if (i > 0) {
                text.append("sub ").append(c.parent).append(' ').append(c.retention).append(' ').append(c.limit)
                        .append(' ').append(c.days).append(' ').append(c.rank);
                text.append(c.linked ? space(numbers) + "linked;" : ";");
            }
            for (Model.Item item : c.items) {
                text.append("item").append(space(numbers)).append(i).append(' ').append(item.first)
                        .append(' ').append(item.price).append(';');
            }
        }
        if (!early) {
            options(state, text, numbers);
        }
        text.append(space(numbers));
        if (text.length() > 900) {
            shorten(state);
            return text(state, numbers);
        }
        return text.toString();
    }

    private static void shorten(Model.State state) {
        for (Model.Contract c : state.contracts) {
            if (c.items.size() > 1) {
                c.items.remove(c.items.size() - 1);
            }
        }
    }

    private static void options(Model.State state, StringBuilder text, Numbers numbers) {
        if (state.threshold != 25 || numbers.once(5)) {
            text.append("threshold ").append(state.threshold).append(';');
        }
        if (state.rate != null) {
            text.append("rate ");
            print(state.rate, 0, text, numbers);
            text.append(';');
        }
    }

    /** Parentheses stand where they are needed; level 0 takes sums, 1 terms, 2 factors. */
    private static void print(Model.Rate rate, int level, StringBuilder text, Numbers numbers) {
        if (rate.left == null) {
            text.append(space(numbers)).append(rate.sign);
            return;
        }
        int own = rate.sign.equals("+") || rate.sign.equals("-") ? 0 : 1;
        if (own < level) {
            text.append('(');
        }
        print(rate.left, own, text, numbers);
        text.append(space(numbers)).append(rate.sign);
        print(rate.right, own + 1, text, numbers);
        if (own < level) {
            text.append(')');
        }
    }

    private static String space(Numbers numbers) {
        return " ".repeat(numbers.once(6) ? 1 : 0);
    }
}

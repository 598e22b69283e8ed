import java.util.ArrayDeque;
import java.util.ArrayList;
import java.util.Deque;
import java.util.HashMap;
import java.util.List;
import java.util.Map;

/**
 * The document read a second time, another way: the parts are found by looking for their tokens when
 * they are run, and words and parts are run by recursion. ModelTest compares StackTarget with it.
 */
final class Model {
    private static final class Stop extends Exception {
        private static final long serialVersionUID = 1L;
        final int why;

        Stop(int why) {
            super(null, null, false, false);
            this.why = why;
        }
    }

    private final List<String> codes = new ArrayList<>();
    private final List<Integer> args = new ArrayList<>();
    private boolean translated;
    private int errorAt;
    private final Map<Integer, Integer> words = new HashMap<>();
    private final Map<Integer, Integer> addresses = new HashMap<>();
    private final List<Integer> cells = new ArrayList<>();
    private final List<Integer> stack = new ArrayList<>();
    private final List<Integer> output = new ArrayList<>();
    private int turnsLeft;

    int token(int code, int arg) {
        if (codes.size() >= 80) {
            return -1;
        }
        codes.add(code >= 0 && code < Source.CODES.size() ? Source.CODES.get(code) : "?");
        args.add(arg);
        translated = false;
        return codes.size();
    }

    void clear() {
        codes.clear();
        args.clear();
        translated = false;
    }

    int errorAt() {
        return errorAt;
    }

    int push(int value) {
        if (stack.size() >= 16) {
            return -1;
        }
        stack.add(value);
        return stack.size();
    }

    int depth() {
        return stack.size();
    }

    int top(int below) {
        return at(stack, (long) stack.size() - 1 - below);
    }

    int outputs() {
        return output.size();
    }

    int output(int place) {
        return at(output, place);
    }

    int variable(int address) {
        return translated ? at(cells, address) : 0;
    }

    private static int at(List<Integer> row, long place) {
        return place >= 0 && place < row.size() ? row.get((int) place) : 0;
    }

    // ---- translation ----

    int translate() {
        translated = false;
        words.clear();
        addresses.clear();
        Deque<String> open = null;
        for (int at = 0; at < codes.size(); at++) {
            int error = open == null ? outside(at) : inside(at, open);
            if (error != 0) {
                errorAt = at;
                return error;
            }
            if (codes.get(at).equals("DEFINE")) {
                open = new ArrayDeque<>();
            } else if (codes.get(at).equals("END")) {
                open = null;
            }
        }
        if (open != null) {
            errorAt = codes.size();
            return StackTarget.OPEN;
        }
        for (int at = 0; at < codes.size(); at++) {
            if (codes.get(at).equals("WORD") && !isDefined(args.get(at))) {
                errorAt = at;
                return StackTarget.UNKNOWN;
            }
        }
        translated = true;
        stack.clear();
        output.clear();
        cells.clear();
        addresses.forEach((name, address) -> cells.add(0));
        return 0;
    }

    private boolean isDefined(int name) {
        return words.containsKey(name) || addresses.containsKey(name);
    }

    private int outside(int at) {
        boolean word = codes.get(at).equals("DEFINE");
        if (!word && !codes.get(at).equals("VARIABLE")) {
            return StackTarget.STRAY;
        }
        int name = args.get(at);
        if (name < 0 || name > 11) {
            return StackTarget.BAD_NAME;
        }
        if (isDefined(name)) {
            return StackTarget.TWICE;
        }
        if (word) {
            words.put(name, at + 1);
        } else {
            addresses.put(name, addresses.size());
        }
        return 0;
    }

    private int inside(int at, Deque<String> open) {
        String code = codes.get(at);
        String last = open.isEmpty() ? "none" : open.peek();
        boolean fits = switch (code) {
            case "ELSE" -> last.equals("IF");
            case "THEN" -> last.equals("IF") || last.equals("ELSE");
            case "WHILE", "UNTIL" -> last.equals("BEGIN");
            case "REPEAT" -> last.equals("WHILE");
            case "NEXT" -> last.equals("TIMES");
            case "INDEX" -> open.contains("TIMES");
            case "END" -> open.isEmpty();
            default -> true;
        };
        if (!fits) {
            return StackTarget.UNBALANCED;
        }
        switch (code) {
            case "IF", "BEGIN", "TIMES" -> {
                if (open.size() >= 6) {
                    return StackTarget.DEEP;
                }
                open.push(code);
            }
            case "ELSE", "WHILE" -> {
                open.pop();
                open.push(code);
            }
            case "THEN", "UNTIL", "REPEAT", "NEXT" -> open.pop();
            case "DEFINE", "VARIABLE", "?" -> {
                return StackTarget.STRAY;
            }
            case "WORD" -> {
                if (args.get(at) < 0 || args.get(at) > 11) {
                    return StackTarget.BAD_NAME;
                }
            }
            default -> {
            }
        }
        return 0;
    }

    // ---- the machine ----

    int run(int name) {
        if (!translated || !words.containsKey(name)) {
            return -1;
        }
        output.clear();
        turnsLeft = 200;
        try {
            word(name, 1);
            return 0;
        } catch (Stop stop) {
            return stop.why;
        }
    }

    private void word(int name, int level) throws Stop {
        int from = words.get(name);
        int to = from;
        while (!codes.get(to).equals("END")) {
            to++;
        }
        block(from, to, level, new ArrayDeque<>());
    }

    private void block(int from, int to, int level, Deque<Integer> counts) throws Stop {
        int at = from;
        while (at < to) {
            switch (codes.get(at)) {
                case "IF" -> choice(at, level, counts);
                case "BEGIN" -> loop(at, level, counts);
                case "TIMES" -> count(at, level, counts);
                case "WORD" -> name(args.get(at), level);
                case "INDEX" -> give(counts.peek());
                default -> simple(codes.get(at), args.get(at));
            }
            at = behind(at);
        }
    }

    /** The place behind the token, or behind the whole part that it opens. */
    private int behind(int at) {
        return isOpening(at) ? find(at, "THEN", "UNTIL", "REPEAT", "NEXT") + 1 : at + 1;
    }

    private boolean isOpening(int at) {
        return List.of("IF", "BEGIN", "TIMES").contains(codes.get(at));
    }

    /** The first of these tokens that belongs to the part opened at the place; -1 if it has none. */
    private int find(int opening, String... wanted) {
        int at = opening + 1;
        while (true) {
            if (List.of(wanted).contains(codes.get(at))) {
                return at;
            }
            if (List.of("THEN", "UNTIL", "REPEAT", "NEXT").contains(codes.get(at))) {
                return -1;
            }
            at = behind(at);
        }
    }

    private void choice(int at, int level, Deque<Integer> counts) throws Stop {
        int middle = find(at, "ELSE");
        int end = find(at, "THEN");
        boolean yes = take(1)[0] != 0;
        if (yes) {
            block(at + 1, middle < 0 ? end : middle, level, counts);
        } else if (middle >= 0) {
            block(middle + 1, end, level, counts);
        }
    }

    private void loop(int at, int level, Deque<Integer> counts) throws Stop {
        int middle = find(at, "WHILE");
        int end = find(at, "UNTIL", "REPEAT");
        while (true) {
            block(at + 1, middle < 0 ? end : middle, level, counts);
            need(1);
            boolean zero = top(0) == 0;
            if (middle < 0 && zero) {
                turn();
            }
            take(1);
            if (zero == (middle >= 0)) {
                return;
            }
            if (middle >= 0) {
                block(middle + 1, end, level, counts);
                turn();
            }
        }
    }

    private void count(int at, int level, Deque<Integer> counts) throws Stop {
        int end = find(at, "NEXT");
        int limit = take(1)[0];
        for (int count = 0; count < limit; count++) {
            counts.push(count);
            block(at + 1, end, level, counts);
            counts.pop();
            turn();
        }
    }

    private void name(int name, int level) throws Stop {
        if (addresses.containsKey(name)) {
            give(addresses.get(name));
            return;
        }
        turn();
        if (level == 8) {
            throw new Stop(StackTarget.NESTED);
        }
        word(name, level + 1);
    }

    private void turn() throws Stop {
        if (turnsLeft == 0) {
            throw new Stop(StackTarget.TIRED);
        }
        turnsLeft--;
    }

    private void need(int n) throws Stop {
        if (stack.size() < n) {
            throw new Stop(StackTarget.UNDERFLOW);
        }
    }

    private int[] take(int n) throws Stop {
        need(n);
        int[] taken = new int[n];
        for (int i = n - 1; i >= 0; i--) {
            taken[i] = stack.remove(stack.size() - 1);
        }
        return taken;
    }

    private void give(int... numbers) throws Stop {
        if (stack.size() + numbers.length > 16) {
            throw new Stop(StackTarget.OVERFLOW);
        }
        for (int number : numbers) {
            stack.add(number);
        }
    }

    /** A token that stops leaves the stack as it was, so the old one is kept aside. */
    private void simple(String code, int arg) throws Stop {
        List<Integer> before = new ArrayList<>(stack);
        try {
            work(code, arg);
        } catch (Stop stop) {
            stack.clear();
            stack.addAll(before);
            throw stop;
        }
    }

    private void work(String code, int arg) throws Stop {
        int n = switch (code) {
            case "NUMBER" -> 0;
            case "DUP", "DROP", "FETCH", "EMIT" -> 1;
            case "ROT" -> 3;
            default -> 2;
        };
        int[] t = take(n);
        switch (code) {
            case "NUMBER" -> give(arg);
            case "ADD" -> give(t[0] + t[1]);
            case "SUB" -> give(t[0] - t[1]);
            case "MUL" -> give(t[0] * t[1]);
            case "DIV" -> {
                unless(t[1] != 0, StackTarget.DIVIDE);
                give((int) ((long) t[0] / t[1]));
            }
            case "DUP" -> give(t[0], t[0]);
            case "DROP" -> give();
            case "SWAP" -> give(t[1], t[0]);
            case "OVER" -> give(t[0], t[1], t[0]);
            case "ROT" -> give(t[1], t[2], t[0]);
            case "EQUAL" -> give(t[0] == t[1] ? 1 : 0);
            case "LESS" -> give(t[0] < t[1] ? 1 : 0);
            case "FETCH" -> {
                unless(t[0] >= 0 && t[0] < cells.size(), StackTarget.ADDRESS);
                give(cells.get(t[0]));
            }
            case "STORE" -> {
                unless(t[1] >= 0 && t[1] < cells.size(), StackTarget.ADDRESS);
                cells.set(t[1], t[0]);
            }
            case "EMIT" -> {
                unless(output.size() < 16, StackTarget.FULL);
                output.add(t[0]);
            }
            default -> throw new IllegalStateException(code);
        }
    }

    private static void unless(boolean fine, int why) throws Stop {
        if (!fine) {
            throw new Stop(why);
        }
    }
}

import java.util.ArrayList;
import java.util.List;

/** All promises at once: many made-up programs and calls, each answered by StackTarget as by the Model. */
public final class ModelTest {
    private static final int OBJECTS = 20000;
    private static final int CALLS = 512;

    private final Check check;
    private final Dice dice;
    private final StackTarget target = new StackTarget();
    private final Model model = new Model();
    private final int number;
    private final int[] seen;
    private int calls;

    private ModelTest(Check check, int number, int[] seen) {
        this.check = check;
        this.number = number;
        this.seen = seen;
        this.dice = new Dice(number);
    }

    public static void main(String[] args) {
        Check check = new Check();
        int[] seen = new int[40];
        for (int number = 0; number < OBJECTS; number++) {
            new ModelTest(check, number, seen).use();
        }
        for (int code : new int[] {0, 1, 2, 3, 4, 5, 6, 7, 11, 12, 13, 14, 15, 16, 17}) {
            check.due("the made-up programs come to code " + code, seen[code] > 100);
        }
        check.end();
    }

    /** The same numbers in every run of the test. */
    private static final class Dice {
        private long state;

        Dice(long seed) {
            state = seed * 0x9E3779B97F4A7C15L + 1;
        }

        int below(int bound) {
            state = state * 6364136223846793005L + 1442695040888963407L;
            return (int) ((state >>> 33) % bound);
        }

        boolean oneIn(int n) {
            return below(n) == 0;
        }

        int number() {
            int sort = below(12);
            if (sort == 0) {
                return new int[] {Integer.MIN_VALUE, Integer.MAX_VALUE, -1, 65537, 300}[below(5)];
            }
            return sort < 4 ? below(40) - 10 : below(4);
        }
    }

    private void same(String call, int got, int want) {
        calls++;
        check.due("object " + number + ", call " + calls + ": " + call, got, want);
    }

    private void use() {
        giveProgram();
        while (calls < CALLS - 60) {
            int sort = dice.below(40);
            if (sort == 0) {
                clear();
                giveProgram();
            } else if (sort == 1) {
                translate();
            } else if (sort == 2) {
                token(dice.below(31) - 1, dice.number());
                look();
            } else if (sort < 16) {
                int value = dice.number();
                same("push(" + value + ")", target.push(value), model.push(value));
            } else {
                run(dice.oneIn(8) ? dice.below(16) - 2 : dice.below(4));
            }
        }
        look();
    }

    private void clear() {
        target.clear();
        model.clear();
        calls++;
        look();
    }

    private void token(int code, int arg) {
        same("token(" + code + ", " + arg + ")", target.token(code, arg), model.token(code, arg));
    }

    private void translate() {
        int error = model.translate();
        seen[error]++;
        same("translate()", target.translate(), error);
        look();
    }

    private void run(int name) {
        int stop = model.run(name);
        if (stop > 0) {
            seen[stop]++;
        }
        same("run(" + name + ")", target.run(name), stop);
        look();
    }

    private void look() {
        same("depth()", target.depth(), model.depth());
        same("outputs()", target.outputs(), model.outputs());
        same("errorAt()", target.errorAt(), model.errorAt());
        same("top(0)", target.top(0), model.top(0));
        for (int time = 0; time < 3; time++) {
            int below = dice.below(19) - 1;
            same("top(" + below + ")", target.top(below), model.top(below));
            int place = dice.below(19) - 1;
            same("output(" + place + ")", target.output(place), model.output(place));
            int address = dice.below(5) - 1;
            same("variable(" + address + ")", target.variable(address), model.variable(address));
        }
    }

    // ---- made-up programs ----

    private void giveProgram() {
        List<int[]> program = new ArrayList<>();
        for (int name = 0; name < 4; name++) {
            if (dice.oneIn(4)) {
                add(program, "VARIABLE", name);
            } else if (!dice.oneIn(30)) {
                add(program, "DEFINE", name);
                definition(program);
                add(program, "END", 0);
            }
        }
        if (dice.oneIn(4) && !program.isEmpty()) {
            spoil(program);
        }
        for (int[] token : program) {
            token(token[0], token[1]);
        }
        translate();
    }

    private static void add(List<int[]> program, String code, int arg) {
        program.add(new int[] {Source.code(code), arg});
    }

    private void definition(List<int[]> program) {
        int sort = dice.below(12);
        if (sort == 0) {
            nest(program, 5 + dice.below(3));
        } else if (sort == 1) {
            add(program, "NUMBER", 12 + dice.below(8));
            add(program, "TIMES", 0);
            body(program, dice.below(3), true);
            add(program, "INDEX", 0);
            add(program, "EMIT", 0);
            add(program, "NEXT", 0);
        } else {
            body(program, 2 + dice.below(10), false);
        }
    }

    /** So many parts inside each other, around the limit. */
    private void nest(List<int[]> program, int parts) {
        for (int i = 0; i < parts; i++) {
            add(program, "NUMBER", 1 + dice.below(2));
            add(program, "TIMES", 0);
        }
        body(program, 1, true);
        for (int i = 0; i < parts; i++) {
            add(program, "NEXT", 0);
        }
    }

    private void body(List<int[]> program, int length, boolean counted) {
        for (int left = length; left > 0; left--) {
            int sort = dice.below(20);
            if (sort < 5) {
                part(program, length / 2, counted);
            } else if (sort < 8) {
                add(program, "WORD", dice.below(4));
            } else if (sort < 11) {
                add(program, "NUMBER", dice.number());
            } else if (sort < 13 && counted) {
                add(program, "INDEX", 0);
            } else {
                add(program, Source.CODES.get(1 + dice.below(14)), 0);
            }
        }
    }

    private void part(List<int[]> program, int length, boolean counted) {
        String[][] sorts = {{"IF", "THEN"}, {"IF", "ELSE", "THEN"}, {"BEGIN", "UNTIL"}, {"BEGIN", "WHILE", "REPEAT"},
            {"TIMES", "NEXT"}, {"TIMES", "NEXT"}};
        String[] tokens = sorts[dice.below(sorts.length)];
        boolean inside = counted || tokens[0].equals("TIMES");
        for (int i = 0; i < tokens.length; i++) {
            if (i > 0) {
                body(program, dice.below(length + 1), inside);
            }
            if (!tokens[i].equals("ELSE") && dice.oneIn(2)) {
                add(program, dice.oneIn(2) ? "DUP" : "NUMBER", dice.number());
            }
            add(program, tokens[i], 0);
        }
    }

    private void spoil(List<int[]> program) {
        int place = dice.below(program.size());
        switch (dice.below(4)) {
            case 0 -> program.remove(place);
            case 1 -> program.get(place)[0] = dice.below(32) - 1;
            case 2 -> program.get(place)[1] = dice.below(16) - 2;
            default -> program.add(place, new int[] {dice.below(29), dice.below(14) - 1});
        }
    }
}

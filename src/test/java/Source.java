import java.util.List;

/** Programs written as text, such as "DEFINE 0 DUP MUL END": a word, and the arg behind it if there is one. */
final class Source {
    static final List<String> CODES = List.of(
        "NUMBER", "ADD", "SUB", "MUL", "DIV", "DUP", "DROP", "SWAP", "OVER", "ROT",
        "EQUAL", "LESS", "FETCH", "STORE", "EMIT", "WORD", "IF", "ELSE", "THEN", "BEGIN",
        "UNTIL", "WHILE", "REPEAT", "TIMES", "NEXT", "INDEX", "DEFINE", "END", "VARIABLE");

    private Source() {
    }

    static int code(String word) {
        int code = CODES.indexOf(word);
        if (code < 0) {
            throw new IllegalArgumentException("no such code: " + word);
        }
        return code;
    }

    /** Adds the tokens to x; a code without an arg gets the arg 0. */
    static void give(StackTarget x, String text) {
        if (text.isBlank()) {
            return;
        }
        String[] words = text.trim().split("\\s+");
        for (int i = 0; i < words.length; i++) {
            int code = code(words[i]);
            boolean hasArg = i + 1 < words.length && words[i + 1].matches("-?[0-9]+");
            int arg = hasArg ? Integer.parseInt(words[i + 1]) : 0;
            if (x.token(code, arg) < 0) {
                throw new IllegalArgumentException("token refused: " + text);
            }
            if (hasArg) {
                i++;
            }
        }
    }

    static StackTarget given(String text) {
        StackTarget x = new StackTarget();
        give(x, text);
        return x;
    }

    static StackTarget translated(String text) {
        StackTarget x = given(text);
        int error = x.translate();
        if (error != 0) {
            throw new IllegalArgumentException("error " + error + " at " + x.errorAt() + " in: " + text);
        }
        return x;
    }

    /** How many tokens the text has. */
    static int tokens(String text) {
        int tokens = 0;
        for (String word : text.trim().split("\\s+")) {
            if (CODES.contains(word)) {
                tokens++;
            }
        }
        return tokens;
    }

    static String times(int n, String text) {
        return (text + " ").repeat(n);
    }

    static int[] row(int... numbers) {
        return numbers;
    }

    static void pushAll(StackTarget x, int... values) {
        for (int value : values) {
            x.push(value);
        }
    }
}

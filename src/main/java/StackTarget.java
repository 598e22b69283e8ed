public final class StackTarget {
    public static final int STRAY = 1;
    public static final int BAD_NAME = 2;
    public static final int TWICE = 3;
    public static final int UNBALANCED = 4;
    public static final int DEEP = 5;
    public static final int OPEN = 6;
    public static final int UNKNOWN = 7;
    public static final int UNDERFLOW = 11;
    public static final int OVERFLOW = 12;
    public static final int DIVIDE = 13;
    public static final int ADDRESS = 14;
    public static final int FULL = 15;
    public static final int TIRED = 16;
    public static final int NESTED = 17;

    private static final int NUMBER = 0;
    private static final int ADD = 1;
    private static final int SUB = 2;
    private static final int MUL = 3;
    private static final int DIV = 4;
    private static final int DUP = 5;
    private static final int DROP = 6;
    private static final int SWAP = 7;
    private static final int OVER = 8;
    private static final int ROT = 9;
    private static final int EQUAL = 10;
    private static final int LESS = 11;
    private static final int FETCH = 12;
    private static final int STORE = 13;
    private static final int EMIT = 14;
    private static final int WORD = 15;
    private static final int IF = 16;
    private static final int ELSE = 17;
    private static final int THEN = 18;
    private static final int BEGIN = 19;
    private static final int UNTIL = 20;
    private static final int WHILE = 21;
    private static final int REPEAT = 22;
    private static final int TIMES = 23;
    private static final int NEXT = 24;
    private static final int INDEX = 25;
    private static final int DEFINE = 26;
    private static final int END = 27;
    private static final int VARIABLE = 28;

    private static final int MAX_TOKENS = 80;
    private static final int NAMES = 12;
    private static final int MAX_PARTS = 6;
    private static final int MAX_STACK = 16;
    private static final int MAX_OUTPUT = 16;
    private static final int MAX_TURNS = 200;
    private static final int MAX_CALLS = 8;
    private static final int MAX_COUNTS = MAX_CALLS * MAX_PARTS;

    // A running word goes only forward but for the turns of its loops, and each running word but the first
    // is a turn itself, so a run needs at most (MAX_TURNS + 1) * MAX_TOKENS = 16080 steps: this bound is never met.
    private static final int STEP_BOUND = 1000000;

    private static final int NO_PART = -1;

    // What a name stands for.
    private static final int NOTHING = 0;
    private static final int A_WORD = 1;
    private static final int A_VARIABLE = 2;

    private final int[] codes = new int[MAX_TOKENS];
    private final int[] args = new int[MAX_TOKENS];
    private int tokenCount;

    private boolean translated;
    private int errorPlace;
    private boolean inDefinition;

    private final int[] nameMeaning = new int[NAMES];
    // The first token of a word's definition, or the address of a variable.
    private final int[] nameValue = new int[NAMES];
    private int variableCount;

    // The row of open parts. The sort of a part is the code of the token that gave it that sort.
    private final int[] partSort = new int[MAX_PARTS];
    private final int[] partStart = new int[MAX_PARTS];
    // The token of the part whose jump is still to be set: it goes on behind the next token of the part.
    private final int[] partSkip = new int[MAX_PARTS];
    private int partCount;

    // Where each token goes on if it does not go on with the next one.
    private final int[] jumps = new int[MAX_TOKENS];
    // Which of its word's counts a TIMES, NEXT or INDEX uses: the place of its part in the row.
    private final int[] countPlaces = new int[MAX_TOKENS];

    private final int[] stack = new int[MAX_STACK];
    private int stackSize;
    private final int[] emitted = new int[MAX_OUTPUT];
    private int emittedCount;
    private final int[] cells = new int[NAMES];

    private int current;
    private int turns;
    private int calls;
    private final int[] returnPlaces = new int[MAX_CALLS];
    // Each running word has MAX_PARTS counts of its own, for no more parts can be open in it.
    private final int[] counts = new int[MAX_COUNTS];
    private final int[] countLimits = new int[MAX_COUNTS];

    public StackTarget() {
    }

    public int token(int code, int arg) {
        if (tokenCount == MAX_TOKENS) {
            return -1;
        }
        codes[tokenCount] = code;
        args[tokenCount] = arg;
        tokenCount++;
        translated = false;
        return tokenCount;
    }

    public void clear() {
        tokenCount = 0;
        translated = false;
    }

    public int translate() {
        startTranslation();
        int error = 0;
        for (int at = 0; at < tokenCount && error == 0; at++) {
            error = inDefinition ? translateInside(at) : translateOutside(at);
            if (error != 0) {
                errorPlace = at;
            }
        }
        if (error == 0) {
            error = finishTranslation();
        }
        if (error == 0) {
            translated = true;
            resetMachine();
        }
        return error;
    }

    public int errorAt() {
        return errorPlace;
    }

    public int push(int value) {
        if (stackSize == MAX_STACK) {
            return -1;
        }
        put(value);
        return stackSize;
    }

    public int run(int name) {
        if (!translated || !isName(name) || nameMeaning[name] != A_WORD) {
            return -1;
        }
        emittedCount = 0;
        turns = 0;
        calls = 1;
        current = nameValue[name];
        int stop = 0;
        for (int step = 0; step < STEP_BOUND && calls > 0 && stop == 0; step++) {
            stop = whyStop();
            if (stop == 0) {
                carryOut();
            }
        }
        return stop;
    }

    public int depth() {
        return stackSize;
    }

    public int top(int below) {
        if (below < 0 || below >= stackSize) {
            return 0;
        }
        return stack[stackSize - 1 - below];
    }

    public int outputs() {
        return emittedCount;
    }

    public int output(int place) {
        if (place < 0 || place >= emittedCount) {
            return 0;
        }
        return emitted[place];
    }

    public int variable(int address) {
        if (!translated || !isAddress(address)) {
            return 0;
        }
        return cells[address];
    }

    // ---- translation ----

    private void startTranslation() {
        translated = false;
        inDefinition = false;
        variableCount = 0;
        partCount = 0;
        for (int name = 0; name < NAMES; name++) {
            nameMeaning[name] = NOTHING;
        }
    }

    private int translateOutside(int at) {
        int code = codes[at];
        int name = args[at];
        if (code != DEFINE && code != VARIABLE) {
            return STRAY;
        }
        if (!isName(name)) {
            return BAD_NAME;
        }
        if (nameMeaning[name] != NOTHING) {
            return TWICE;
        }
        if (code == DEFINE) {
            nameMeaning[name] = A_WORD;
            nameValue[name] = at + 1;
            inDefinition = true;
        } else {
            nameMeaning[name] = A_VARIABLE;
            nameValue[name] = variableCount;
            variableCount++;
        }
        return 0;
    }

    private int translateInside(int at) {
        int error = errorInside(at);
        if (error == 0) {
            arrangeParts(at);
        }
        return error;
    }

    private int errorInside(int at) {
        int code = codes[at];
        switch (code) {
            case IF:
            case BEGIN:
            case TIMES:
                return partCount == MAX_PARTS ? DEEP : 0;
            case ELSE:
            case THEN:
            case WHILE:
            case UNTIL:
            case REPEAT:
            case NEXT:
            case INDEX:
            case END:
                return fitsOpenParts(code) ? 0 : UNBALANCED;
            case WORD:
                return isName(args[at]) ? 0 : BAD_NAME;
            default:
                return code >= NUMBER && code <= EMIT ? 0 : STRAY;
        }
    }

    private boolean fitsOpenParts(int code) {
        int last = partCount == 0 ? NO_PART : partSort[partCount - 1];
        switch (code) {
            case ELSE:
                return last == IF;
            case THEN:
                return last == IF || last == ELSE;
            case WHILE:
            case UNTIL:
                return last == BEGIN;
            case REPEAT:
                return last == WHILE;
            case NEXT:
                return last == TIMES;
            case INDEX:
                return innermostTimes() != NO_PART;
            default:
                return last == NO_PART;
        }
    }

    private int innermostTimes() {
        for (int part = partCount - 1; part >= 0; part--) {
            if (partSort[part] == TIMES) {
                return part;
            }
        }
        return NO_PART;
    }

    private void arrangeParts(int at) {
        switch (codes[at]) {
            case IF:
            case BEGIN:
            case TIMES:
                openPart(at);
                break;
            case ELSE:
            case WHILE:
                changePart(at);
                break;
            case THEN:
            case UNTIL:
            case REPEAT:
            case NEXT:
                closePart(at);
                break;
            case INDEX:
                countPlaces[at] = innermostTimes();
                break;
            case END:
                inDefinition = false;
                break;
            default:
                break;
        }
    }

    private void openPart(int at) {
        partSort[partCount] = codes[at];
        partStart[partCount] = at;
        partSkip[partCount] = at;
        countPlaces[at] = partCount;
        partCount++;
    }

    // Here and in closePart a BEGIN or THEN gets a jump too; it never uses it, so none is told apart.
    private void changePart(int at) {
        int part = partCount - 1;
        jumps[partSkip[part]] = at + 1;
        partSkip[part] = at;
        partSort[part] = codes[at];
    }

    private void closePart(int at) {
        partCount--;
        jumps[partSkip[partCount]] = at + 1;
        jumps[at] = partStart[partCount] + 1;
        countPlaces[at] = partCount;
    }

    private int finishTranslation() {
        if (inDefinition) {
            errorPlace = tokenCount;
            return OPEN;
        }
        // Only now, since a word may be used before its definition.
        for (int at = 0; at < tokenCount; at++) {
            if (codes[at] == WORD && nameMeaning[args[at]] == NOTHING) {
                errorPlace = at;
                return UNKNOWN;
            }
        }
        return 0;
    }

    private void resetMachine() {
        stackSize = 0;
        emittedCount = 0;
        for (int address = 0; address < NAMES; address++) {
            cells[address] = 0;
        }
    }

    private boolean isName(int number) {
        return number >= 0 && number < NAMES;
    }

    private boolean isAddress(int number) {
        return number >= 0 && number < variableCount;
    }

    // ---- the machine: whether a token stops ----

    private int whyStop() {
        int code = codes[current];
        int taken = numbersTaken(code);
        if (stackSize < taken) {
            return UNDERFLOW;
        }
        int stop = namedStop(code);
        if (stop != 0) {
            return stop;
        }
        return stackSize == MAX_STACK && addsNumber(code) ? OVERFLOW : 0;
    }

    private int numbersTaken(int code) {
        switch (code) {
            case ROT:
                return 3;
            case ADD:
            case SUB:
            case MUL:
            case DIV:
            case SWAP:
            case OVER:
            case EQUAL:
            case LESS:
            case STORE:
                return 2;
            case DUP:
            case DROP:
            case FETCH:
            case EMIT:
            case IF:
            case UNTIL:
            case WHILE:
            case TIMES:
                return 1;
            default:
                return 0;
        }
    }

    private int namedStop(int code) {
        switch (code) {
            case DIV:
                return stack[stackSize - 1] == 0 ? DIVIDE : 0;
            case FETCH:
            case STORE:
                return isAddress(stack[stackSize - 1]) ? 0 : ADDRESS;
            case EMIT:
                return emittedCount == MAX_OUTPUT ? FULL : 0;
            case WORD:
                return callStop();
            case UNTIL:
                return stack[stackSize - 1] == 0 ? turnStop() : 0;
            case REPEAT:
            case NEXT:
                return turnStop();
            default:
                return 0;
        }
    }

    private int callStop() {
        if (nameMeaning[args[current]] == A_VARIABLE) {
            return 0;
        }
        int stop = turnStop();
        if (stop != 0) {
            return stop;
        }
        return calls == MAX_CALLS ? NESTED : 0;
    }

    private int turnStop() {
        return turns == MAX_TURNS ? TIRED : 0;
    }

    private boolean addsNumber(int code) {
        switch (code) {
            case NUMBER:
            case DUP:
            case OVER:
            case INDEX:
                return true;
            case WORD:
                return nameMeaning[args[current]] == A_VARIABLE;
            default:
                return false;
        }
    }

    // ---- the machine: what a token does, once nothing stops it ----

    private void carryOut() {
        int code = codes[current];
        switch (code) {
            case NUMBER:
                put(args[current]);
                current++;
                break;
            case ADD:
            case SUB:
            case MUL:
            case DIV:
            case EQUAL:
            case LESS:
                calculate(code);
                current++;
                break;
            case DUP:
            case DROP:
            case SWAP:
            case OVER:
            case ROT:
                rearrange(code);
                current++;
                break;
            case FETCH:
            case STORE:
            case EMIT:
                moveNumber(code);
                current++;
                break;
            default:
                goOn(code);
                break;
        }
    }

    private void put(int value) {
        stack[stackSize] = value;
        stackSize++;
    }

    private int take() {
        stackSize--;
        return stack[stackSize];
    }

    private void calculate(int code) {
        int y = take();
        int x = take();
        int result = resultOf(code, x, y);
        put(result);
    }

    private int resultOf(int code, int x, int y) {
        switch (code) {
            case ADD:
                return x + y;
            case SUB:
                return x - y;
            case MUL:
                return x * y;
            case DIV:
                return x / y;
            case EQUAL:
                return x == y ? 1 : 0;
            default:
                return x < y ? 1 : 0;
        }
    }

    private void rearrange(int code) {
        switch (code) {
            case DUP:
                put(stack[stackSize - 1]);
                break;
            case DROP:
                stackSize--;
                break;
            case SWAP:
                bringUp(1);
                break;
            case OVER:
                put(stack[stackSize - 2]);
                break;
            default:
                bringUp(2);
                break;
        }
    }

    private void bringUp(int below) {
        int last = stackSize - 1;
        int raised = stack[last - below];
        for (int at = last - below; at < last; at++) {
            stack[at] = stack[at + 1];
        }
        stack[last] = raised;
    }

    private void moveNumber(int code) {
        int number = take();
        if (code == FETCH) {
            put(cells[number]);
        } else if (code == STORE) {
            cells[number] = take();
        } else {
            emitted[emittedCount] = number;
            emittedCount++;
        }
    }

    private void goOn(int code) {
        switch (code) {
            case WORD:
                useName(args[current]);
                break;
            case IF:
            case WHILE:
                current = take() == 0 ? jumps[current] : current + 1;
                break;
            case ELSE:
                current = jumps[current];
                break;
            case UNTIL:
                endUntil();
                break;
            case REPEAT:
                turnBack();
                break;
            case TIMES:
                startCount();
                break;
            case NEXT:
                advanceCount();
                break;
            case INDEX:
                putCount();
                break;
            case END:
                endCall();
                break;
            default:
                current++;
                break;
        }
    }

    private void useName(int name) {
        if (nameMeaning[name] == A_VARIABLE) {
            put(nameValue[name]);
            current++;
            return;
        }
        turns++;
        returnPlaces[calls] = current + 1;
        calls++;
        current = nameValue[name];
    }

    // The word that run() started has no place to return to: the run ends when no call is left.
    private void endCall() {
        calls--;
        current = returnPlaces[calls];
    }

    private void turnBack() {
        turns++;
        current = jumps[current];
    }

    private void endUntil() {
        if (take() == 0) {
            turnBack();
        } else {
            current++;
        }
    }

    private void startCount() {
        int limit = take();
        if (limit <= 0) {
            current = jumps[current];
            return;
        }
        int count = countOfToken();
        counts[count] = 0;
        countLimits[count] = limit;
        current++;
    }

    private void advanceCount() {
        int count = countOfToken();
        turns++;
        counts[count]++;
        current = counts[count] < countLimits[count] ? jumps[current] : current + 1;
    }

    private void putCount() {
        int count = countOfToken();
        put(counts[count]);
        current++;
    }

    private int countOfToken() {
        return (calls - 1) * MAX_PARTS + countPlaces[current];
    }
}

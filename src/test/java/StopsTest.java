/** The stops of promise 7 (run): what is looked at first, the full stack, and what a stopped run leaves. */
public final class StopsTest {
    private static final Check check = new Check();
    private static final String TWO_HUNDRED_TURNS = "NUMBER 200 TIMES NEXT ";

    public static void main(String[] args) {
        underflowOfEachCode();
        overflowOfEachCode();
        stackFillsUpToSixteen();
        tokensThatAddNoneDoNotOverflow();
        underflowIsLookedAtFirst();
        namedStopsOnAFullStack();
        stoppedTokenLeavesTheStack();
        stoppedRunKeepsWhatItDid();
        eachStopKeepsWhatTheRunHasDone();
        runAfterAStopBeginsAnew();
        check.end();
    }

    /** "first looks whether the stack has as many numbers as it takes (if not: stop with UNDERFLOW)" */
    private static void underflowOfEachCode() {
        underflows("ROT", 3);
        for (String code : new String[] {"ADD", "SUB", "MUL", "DIV", "SWAP", "OVER", "EQUAL", "LESS", "STORE"}) {
            underflows(code, 2);
        }
        for (String code : new String[] {"DUP", "DROP", "FETCH", "EMIT", "IF THEN", "IF ELSE THEN", "BEGIN UNTIL",
            "BEGIN WHILE REPEAT", "TIMES NEXT"}) {
            underflows(code, 1);
        }
        for (String code : new String[] {"NUMBER 1 DROP", "NUMBER 1 TIMES INDEX NEXT DROP", "WORD 1", "WORD 2 DROP"}) {
            StackTarget x = Source.translated("VARIABLE 2 DEFINE 0 " + code + " END DEFINE 1 END");
            check.due(code + " on an empty stack", x.run(0), 0);
        }
    }

    /** 1 is a fitting number for each of these codes: a divisor, an address, and an end of each loop but WHILE. */
    private static void underflows(String code, int taken) {
        StackTarget x = Source.translated("VARIABLE 1 VARIABLE 2 DEFINE 0 " + code + " END");
        for (int n = 0; n < taken; n++) {
            check.due(code + " with " + n + " numbers", x.run(0), StackTarget.UNDERFLOW);
            check.due(code + " with " + n + " numbers: depth()", x.depth(), n);
            x.push(1);
        }
        int due = code.contains("WHILE") ? StackTarget.UNDERFLOW : 0;
        check.due(code + " with " + taken + " numbers", x.run(0), due);
    }

    private static StackTarget withSixteen(String body) {
        StackTarget x = Source.translated("VARIABLE 1 VARIABLE 2 DEFINE 0 " + body + " END DEFINE 3 END");
        for (int n = 1; n <= 16; n++) {
            x.push(1);
        }
        return x;
    }

    /** "then whether the stack would have more than 16 numbers after it (if so: stop with OVERFLOW)" */
    private static void overflowOfEachCode() {
        for (String code : new String[] {"NUMBER 1", "DUP", "OVER", "WORD 1", "WORD 2"}) {
            StackTarget x = withSixteen(code);
            check.due(code + " on a full stack", x.run(0), StackTarget.OVERFLOW);
            check.due(code + " on a full stack: depth()", x.depth(), 16);
            check.due(code + " on a full stack: top(0)", x.top(0), 1);
            StackTarget room = withSixteen("DROP " + code);
            check.due("DROP " + code + " on a full stack", room.run(0), 0);
            check.due("DROP " + code + " on a full stack: depth()", room.depth(), 16);
        }
        StackTarget index = withSixteen("TIMES INDEX INDEX NEXT");
        check.due("INDEX on a full stack", index.run(0), StackTarget.OVERFLOW);
        check.due("INDEX on a full stack: depth()", index.depth(), 16);
        check.due("INDEX on a full stack: top(0)", index.top(0), 0);
    }

    /** "THE MACHINE has a stack of at most 16 ints" */
    private static void stackFillsUpToSixteen() {
        for (String code : new String[] {"NUMBER 1", "DUP", "OVER", "WORD 1", "INDEX"}) {
            for (int more = 13; more <= 16; more++) {
                StackTarget x = Source.translated("VARIABLE 1 DEFINE 0 TIMES " + code + " NEXT END");
                Source.pushAll(x, 5, 6, more);
                String what = code + " " + more + " times on two numbers";
                check.due(what + ": run(0)", x.run(0), more <= 14 ? 0 : StackTarget.OVERFLOW);
                check.due(what + ": depth()", x.depth(), Math.min(2 + more, 16));
                check.due(what + ": the lowest", x.top(x.depth() - 1), 5);
                check.due(what + ": the second", x.top(x.depth() - 2), 6);
            }
        }
    }

    private static void tokensThatAddNoneDoNotOverflow() {
        for (String code : new String[] {"ADD", "SUB", "MUL", "DIV", "DROP", "SWAP", "ROT", "EQUAL", "LESS", "FETCH",
            "STORE", "EMIT", "WORD 3", "IF THEN", "IF ELSE THEN", "BEGIN UNTIL", "BEGIN WHILE DROP NUMBER 0 REPEAT",
            "TIMES NEXT"}) {
            check.due(code + " on a full stack", withSixteen(code).run(0), 0);
        }
    }

    /** "Each token, in this order: first looks whether the stack has as many numbers as it takes" */
    private static void underflowIsLookedAtFirst() {
        check.stops("DIV", Source.row(0), StackTarget.UNDERFLOW, 0);
        check.stops("FETCH", Source.row(), StackTarget.UNDERFLOW);
        check.stops("STORE", Source.row(99), StackTarget.UNDERFLOW, 99);
        check.stops("STORE", Source.row(-1), StackTarget.UNDERFLOW, -1);
        check.stops(TWO_HUNDRED_TURNS + "BEGIN UNTIL", Source.row(), StackTarget.UNDERFLOW);
        StackTarget full = Source.translated("DEFINE 0 NUMBER 16 TIMES INDEX EMIT NEXT EMIT END");
        check.due("EMIT without a number on a full output", full.run(0), StackTarget.UNDERFLOW);
        check.due("EMIT without a number: outputs()", full.outputs(), 16);
    }

    /** "then looks for what is named below as a stop; then whether the stack would have more than 16 numbers after it" */
    private static void namedStopsOnAFullStack() {
        onFullStack("DROP NUMBER 0 DIV", StackTarget.DIVIDE);
        onFullStack("DROP NUMBER 2 FETCH", StackTarget.ADDRESS);
        onFullStack("DROP NUMBER 2 STORE", StackTarget.ADDRESS);
        onFullStack("DROP NUMBER 16 TIMES NUMBER 4 EMIT NEXT NUMBER 4 EMIT", StackTarget.FULL);
        String tired = "DROP " + TWO_HUNDRED_TURNS;
        onFullStack(tired + "NUMBER 1 WORD 3", StackTarget.TIRED);
        onFullStack(tired + "BEGIN NUMBER 0 UNTIL", StackTarget.TIRED);
        onFullStack(tired + "NUMBER 1 TIMES NUMBER 1 NEXT", StackTarget.TIRED);
        onFullStack(tired + "BEGIN NUMBER 1 WHILE NUMBER 1 REPEAT", StackTarget.TIRED);
        onFullStack("WORD 0", StackTarget.NESTED);
    }

    private static void onFullStack(String body, int stop) {
        check.due(body + " on a full stack", withSixteen(body).run(0), stop);
    }

    /** "(A token that stops does nothing else: the stack is as before it.)" */
    private static void stoppedTokenLeavesTheStack() {
        check.stops("ROT", Source.row(1, 2), StackTarget.UNDERFLOW, 1, 2);
        check.stops("ADD", Source.row(1), StackTarget.UNDERFLOW, 1);
        check.stops("DIV", Source.row(1, 2, 0), StackTarget.DIVIDE, 1, 2, 0);
        check.stops("FETCH", Source.row(1, 2), StackTarget.ADDRESS, 1, 2);
        check.stops("STORE", Source.row(1, 2), StackTarget.ADDRESS, 1, 2);
        check.stops("NUMBER 16 TIMES INDEX EMIT NEXT EMIT", Source.row(1, 2), StackTarget.FULL, 1, 2);
        check.stops(TWO_HUNDRED_TURNS + "BEGIN UNTIL", Source.row(1, 0), StackTarget.TIRED, 1, 0);
        check.stops(TWO_HUNDRED_TURNS + "NUMBER 1 TIMES NEXT", Source.row(1, 2), StackTarget.TIRED, 1, 2);
        check.stops(TWO_HUNDRED_TURNS + "BEGIN NUMBER 1 WHILE REPEAT", Source.row(1, 2), StackTarget.TIRED, 1, 2);
        check.stops(TWO_HUNDRED_TURNS + "WORD 0", Source.row(1, 2), StackTarget.TIRED, 1, 2);
        check.stops("WORD 0", Source.row(1, 2), StackTarget.NESTED, 1, 2);
        int[] sixteen = {1, 2, 3, 4, 5, 6, 7, 8, 9, 10, 11, 12, 13, 14, 15, 16};
        for (String code : new String[] {"NUMBER 9", "DUP", "OVER"}) {
            check.stops(code, sixteen, StackTarget.OVERFLOW, sixteen);
        }
    }

    private static void stoppedRunKeepsWhatItDid() {
        StackTarget x = Source.translated("VARIABLE 1 DEFINE 0 DUP EMIT DUP WORD 1 STORE NUMBER 0 DIV EMIT END");
        Source.pushAll(x, 2, 9);
        check.due("run(0)", x.run(0), StackTarget.DIVIDE);
        check.stack("stopped", x, 2, 9, 0);
        check.output("stopped", x, 9);
        check.due("stopped: variable(0)", x.variable(0), 9);
        check.due("stopped: run(0) again", x.run(0), StackTarget.DIVIDE);
        check.stack("stopped again", x, 2, 9, 0, 0);
        check.due("stopped again: variable(0)", x.variable(0), 0);
    }

    /** "What a stopped run has done to stack, variables and output stays." */
    private static void eachStopKeepsWhatTheRunHasDone() {
        keptBy(StackTarget.UNDERFLOW, "DROP DROP", Source.row());
        keptBy(StackTarget.OVERFLOW, "BEGIN DUP NUMBER 0 UNTIL", Source.row(5, 5, 5, 5, 5, 5, 5, 5, 5, 5, 5, 5, 5, 5, 5, 5));
        keptBy(StackTarget.DIVIDE, "NUMBER 0 DIV", Source.row(5, 0));
        keptBy(StackTarget.ADDRESS, "FETCH", Source.row(5));
        keptBy(StackTarget.ADDRESS, "NUMBER 6 NUMBER 1 STORE", Source.row(5, 6, 1));
        keptBy(StackTarget.TIRED, TWO_HUNDRED_TURNS + "WORD 2", Source.row(5));
        keptBy(StackTarget.NESTED, "WORD 2", Source.row(5));
        StackTarget full = Source.translated("VARIABLE 1 DEFINE 0 NUMBER 17 TIMES INDEX WORD 1 STORE INDEX EMIT NEXT END");
        check.due("FULL: run(0)", full.run(0), StackTarget.FULL);
        check.stack("FULL", full, 16);
        check.due("FULL: variable(0)", full.variable(0), 16);
        check.output("FULL", full, 0, 1, 2, 3, 4, 5, 6, 7, 8, 9, 10, 11, 12, 13, 14, 15);
    }

    private static void keptBy(int stop, String stopping, int[] stack) {
        StackTarget x = Source.translated("VARIABLE 1 DEFINE 0 NUMBER 3 EMIT NUMBER 4 WORD 1 STORE NUMBER 5 " + stopping
            + " NUMBER 8 EMIT NUMBER 9 WORD 1 STORE END DEFINE 2 WORD 2 END");
        check.due(stopping + ": run(0)", x.run(0), stop);
        check.stack(stopping, x, stack);
        check.output(stopping, x, 3);
        check.due(stopping + ": variable(0)", x.variable(0), 4);
    }

    /** A stop deep inside words and loops leaves no call, turn or count for the next run. */
    private static void runAfterAStopBeginsAnew() {
        StackTarget x = Source.translated("DEFINE 0 NUMBER 1 TIMES WORD 0 NEXT END "
            + "DEFINE 1 NUMBER 3 TIMES INDEX EMIT NEXT WORD 2 END DEFINE 2 NUMBER 7 EMIT END DEFINE 3 BEGIN NUMBER 0 UNTIL END");
        for (int time = 0; time < 3; time++) {
            check.due("nested: run(0)", x.run(0), StackTarget.NESTED);
            check.due("after NESTED: run(1)", x.run(1), 0);
            check.output("after NESTED", x, 0, 1, 2, 7);
            check.due("tired: run(3)", x.run(3), StackTarget.TIRED);
            check.due("after TIRED: run(1)", x.run(1), 0);
            check.output("after TIRED", x, 0, 1, 2, 7);
        }
        check.stack("each tired run left its number", x, 0, 0, 0);
    }
}

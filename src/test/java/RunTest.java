import java.util.Arrays;

/** Promise 7 (run): what each token takes, gives and goes on with, and when it stops. */
public final class RunTest {
    private static final Check check = new Check();
    private static final int MIN = Integer.MIN_VALUE;
    private static final int MAX = Integer.MAX_VALUE;

    public static void main(String[] args) {
        numbers();
        arithmetic();
        rearranging();
        comparing();
        cells();
        emitting();
        choices();
        untilLoops();
        whileLoops();
        counting();
        counts();
        words();
        runsItsOwnWord();
        underflowOfEachCode();
        overflowOfEachCode();
        runsRefuse();
        runEmptiesTheOutput();
        stoppedRunKeepsWhatItDid();
        check.end();
    }

    private static int[] row(int... numbers) {
        return numbers;
    }

    /** Runs the body on the numbers, which are pushed from left to right. */
    private static void gives(String body, int[] before, int... after) {
        stops(body, before, 0, after);
    }

    private static void stops(String body, int[] before, int stop, int... after) {
        String what = body + " on " + Arrays.toString(before);
        StackTarget x = Source.translated("DEFINE 0 " + body + " END");
        Source.pushAll(x, before);
        check.due(what + ": run(0)", x.run(0), stop);
        check.stack(what, x, after);
    }

    private static void numbers() {
        gives("NUMBER 7", row(), 7);
        gives("NUMBER -7 NUMBER 2147483647 NUMBER -2147483648", row(3), 3, -7, MAX, MIN);
    }

    private static void arithmetic() {
        gives("ADD", row(9, 5, 3), 9, 8);
        gives("ADD", row(MAX, 1), MIN);
        gives("SUB", row(9, 5, 3), 9, 2);
        gives("SUB", row(MIN, 1), MAX);
        gives("MUL", row(9, 5, -3), 9, -15);
        gives("MUL", row(65536, 65537), 65536);
        gives("DIV", row(9, 17, 5), 9, 3);
        gives("DIV", row(-17, 5), -3);
        gives("DIV", row(17, -5), -3);
        gives("DIV", row(-17, -5), 3);
        gives("DIV", row(0, 5), 0);
        gives("DIV", row(MIN, -1), MIN);
        stops("DIV", row(4, 0), StackTarget.DIVIDE, 4, 0);
        stops("DIV", row(0, 0), StackTarget.DIVIDE, 0, 0);
        stops("DIV", row(0), StackTarget.UNDERFLOW, 0);
    }

    private static void rearranging() {
        gives("DUP", row(1, 2), 1, 2, 2);
        gives("DROP", row(1, 2), 1);
        gives("SWAP", row(1, 2, 3), 1, 3, 2);
        gives("OVER", row(1, 2, 3), 1, 2, 3, 2);
        gives("ROT", row(1, 2, 3, 4), 1, 3, 4, 2);
    }

    private static void comparing() {
        gives("EQUAL", row(8, 4, 4), 8, 1);
        gives("EQUAL", row(4, -4), 0);
        gives("LESS", row(8, 4, 5), 8, 1);
        gives("LESS", row(5, 4), 0);
        gives("LESS", row(4, 4), 0);
        gives("LESS", row(MIN, MAX), 1);
        gives("LESS", row(MAX, MIN), 0);
    }

    private static void cells() {
        StackTarget x = Source.translated("VARIABLE 7 VARIABLE 5 DEFINE 0 FETCH END DEFINE 1 STORE END DEFINE 2 WORD 5 WORD 7 END");
        Source.pushAll(x, 40, 1);
        check.due("STORE: run(1)", x.run(1), 0);
        check.stack("STORE", x);
        check.due("STORE: variable(0)", x.variable(0), 0);
        check.due("STORE: variable(1)", x.variable(1), 40);
        Source.pushAll(x, 6, 1);
        check.due("FETCH: run(0)", x.run(0), 0);
        check.stack("FETCH", x, 6, 40);
        check.due("addresses: run(2)", x.run(2), 0);
        check.stack("addresses", x, 6, 40, 1, 0);
        for (int address : new int[] {2, -1, 11, 12, 100, MIN, MAX}) {
            noSuchAddress(address);
        }
        stops("FETCH", row(0), StackTarget.ADDRESS, 0);
        stops("STORE", row(3, 0), StackTarget.ADDRESS, 3, 0);
        stops("STORE", row(99), StackTarget.UNDERFLOW, 99);
    }

    private static void noSuchAddress(int address) {
        StackTarget x = Source.translated("VARIABLE 7 VARIABLE 5 DEFINE 0 FETCH END DEFINE 1 STORE END");
        Source.pushAll(x, 3, address);
        check.due("FETCH at " + address, x.run(0), StackTarget.ADDRESS);
        check.due("STORE at " + address, x.run(1), StackTarget.ADDRESS);
        check.stack("no cell at " + address, x, 3, address);
    }

    private static void emitting() {
        StackTarget x = Source.translated("DEFINE 0 EMIT EMIT END");
        Source.pushAll(x, 1, 2, 3);
        check.due("EMIT: run(0)", x.run(0), 0);
        check.stack("EMIT", x, 1);
        check.output("EMIT", x, 3, 2);
        StackTarget full = Source.translated("DEFINE 0 NUMBER 16 TIMES INDEX EMIT NEXT EMIT END");
        check.due("EMIT without a number", full.run(0), StackTarget.UNDERFLOW);
        full.push(77);
        check.due("17th EMIT", full.run(0), StackTarget.FULL);
        check.stack("17th EMIT", full, 77);
        check.due("17th EMIT: outputs()", full.outputs(), 16);
    }

    private static void choices() {
        String withElse = "IF NUMBER 1 ELSE NUMBER 2 THEN NUMBER 3";
        gives(withElse, row(9, 5), 9, 1, 3);
        gives(withElse, row(9, -1), 9, 1, 3);
        gives(withElse, row(9, 0), 9, 2, 3);
        gives("IF NUMBER 1 THEN NUMBER 3", row(1), 1, 3);
        gives("IF NUMBER 1 THEN NUMBER 3", row(0), 3);
        String nested = "IF IF NUMBER 1 ELSE NUMBER 2 THEN ELSE IF NUMBER 3 THEN NUMBER 4 THEN NUMBER 5";
        gives(nested, row(1, 1), 1, 5);
        gives(nested, row(0, 1), 2, 5);
        gives(nested, row(1, 0), 3, 4, 5);
        gives(nested, row(0, 0), 4, 5);
        gives("IF ELSE THEN", row(0));
        gives("IF ELSE THEN", row(1));
    }

    private static void untilLoops() {
        gives("BEGIN NUMBER 8 SWAP UNTIL NUMBER 9", row(1), 8, 9);
        gives("BEGIN NUMBER 1 ADD DUP NUMBER 5 EQUAL UNTIL", row(2), 5);
        gives("BEGIN UNTIL", row(3, -1, 0, 0), 3);
        stops("BEGIN UNTIL", row(0, 0), StackTarget.UNDERFLOW);
        gives("BEGIN BEGIN UNTIL UNTIL", row(7, 1, 1, 0, 1, 0, 0, 1), 7);
    }

    private static void whileLoops() {
        gives("BEGIN WHILE NUMBER 1 EMIT REPEAT NUMBER 4", row(6, 0, 2, -3), 6, 4);
        gives("BEGIN WHILE REPEAT", row(6, 0), 6);
        gives("BEGIN DUP NUMBER 10 LESS WHILE NUMBER 3 ADD REPEAT", row(2), 11);
        gives("BEGIN DUP WHILE DUP BEGIN DUP WHILE NUMBER 1 SUB REPEAT DROP NUMBER 1 SUB REPEAT", row(4), 0);
    }

    private static void counting() {
        gives("TIMES INDEX NEXT NUMBER 7", row(4), 0, 1, 2, 3, 7);
        gives("TIMES INDEX NEXT NUMBER 7", row(1), 0, 7);
        gives("TIMES INDEX NEXT NUMBER 7", row(0), 7);
        gives("TIMES INDEX NEXT NUMBER 7", row(5, -1), 5, 7);
        gives("TIMES INDEX NEXT NUMBER 7", row(MIN), 7);
        gives("TIMES NEXT", row(200));
        stops("TIMES NEXT", row(MAX), StackTarget.TIRED);
    }

    private static void counts() {
        gives("TIMES NUMBER 2 TIMES INDEX NEXT INDEX NUMBER 10 MUL NEXT", row(3), 0, 1, 0, 0, 1, 10, 0, 1, 20);
        gives("TIMES INDEX NUMBER 1 EQUAL IF INDEX ELSE INDEX NUMBER 5 ADD THEN NEXT", row(3), 5, 1, 7);
        gives("TIMES BEGIN INDEX NUMBER 1 UNTIL NEXT", row(3), 0, 1, 2);
        gives("TIMES NEXT TIMES INDEX NEXT", row(2, 3), 0, 1);
        gives("NUMBER 1 IF TIMES INDEX NEXT THEN", row(3), 0, 1, 2);
        gives(Source.times(6, "NUMBER 2 TIMES") + "NUMBER 1 ADD " + Source.times(6, "NEXT"), row(0), 64);
        ownCountsForEachRunning();
    }

    private static void ownCountsForEachRunning() {
        StackTarget x = Source.translated("DEFINE 0 NUMBER 3 TIMES INDEX EMIT WORD 1 INDEX EMIT NEXT END "
            + "DEFINE 1 NUMBER 2 TIMES INDEX NUMBER 100 ADD EMIT NEXT END");
        check.due("own counts: run(0)", x.run(0), 0);
        check.output("own counts", x, 0, 100, 101, 0, 1, 100, 101, 1, 2, 100, 101, 2);
        StackTarget self = Source.translated("DEFINE 0 DUP IF NUMBER 2 TIMES INDEX EMIT DUP NUMBER 1 SUB WORD 0 NEXT THEN DROP END");
        self.push(2);
        check.due("own counts of one word: run(0)", self.run(0), 0);
        check.output("own counts of one word", self, 0, 0, 1, 1, 0, 1);
    }

    private static void words() {
        StackTarget x = Source.translated("DEFINE 0 WORD 1 NUMBER 1 WORD 2 NUMBER 3 END DEFINE 1 NUMBER 10 WORD 2 END "
            + "DEFINE 2 NUMBER 20 END");
        check.due("words: run(0)", x.run(0), 0);
        check.stack("words", x, 10, 20, 1, 20, 3);
        StackTarget stopped = Source.translated("DEFINE 0 NUMBER 1 WORD 1 NUMBER 2 END DEFINE 1 DROP DROP END");
        check.due("a stop inside: run(0)", stopped.run(0), StackTarget.UNDERFLOW);
        check.stack("a stop inside", stopped);
        check.due("run again from the start", stopped.run(0), StackTarget.UNDERFLOW);
        stopped.push(5);
        check.due("run again, with a number more", stopped.run(0), 0);
        check.stack("run again", stopped, 2);
    }

    private static void runsItsOwnWord() {
        StackTarget x = Source.translated("DEFINE 0 NUMBER 1 END VARIABLE 3 DEFINE 11 NUMBER 2 END DEFINE 5 END");
        check.due("run(11)", x.run(11), 0);
        check.stack("run(11)", x, 2);
        check.due("run(0)", x.run(0), 0);
        check.due("run(5)", x.run(5), 0);
        check.stack("run(0), run(5)", x, 2, 1);
    }

    private static void underflowOfEachCode() {
        underflows("ROT", 3);
        for (String code : new String[] {"ADD", "SUB", "MUL", "DIV", "SWAP", "OVER", "EQUAL", "LESS", "STORE"}) {
            underflows(code, 2);
        }
        for (String code : new String[] {"DUP", "DROP", "FETCH", "EMIT", "IF THEN", "IF ELSE THEN", "BEGIN UNTIL",
            "BEGIN WHILE REPEAT", "TIMES NEXT"}) {
            underflows(code, 1);
        }
        for (String code : new String[] {"NUMBER 1 DROP", "NUMBER 1 TIMES INDEX NEXT DROP", "WORD 1", "WORD 2 DROP"}) {
            StackTarget x = Source.translated("VARIABLE 2 DEFINE 0 " + code + " END DEFINE 1 END");
            check.due(code + " on an empty stack", x.run(0), 0);
        }
    }

    /** 1 is a fitting number for each of these codes: a divisor, an address, and an end of each loop but WHILE. */
    private static void underflows(String code, int taken) {
        StackTarget x = Source.translated("VARIABLE 1 VARIABLE 2 DEFINE 0 " + code + " END");
        for (int n = 0; n < taken; n++) {
            check.due(code + " with " + n + " numbers", x.run(0), StackTarget.UNDERFLOW);
            check.due(code + " with " + n + " numbers: depth()", x.depth(), n);
            x.push(1);
        }
        int due = code.contains("WHILE") ? StackTarget.UNDERFLOW : 0;
        check.due(code + " with " + taken + " numbers", x.run(0), due);
    }

    private static StackTarget withSixteen(String body) {
        StackTarget x = Source.translated("VARIABLE 1 VARIABLE 2 DEFINE 0 " + body + " END DEFINE 3 END");
        for (int n = 1; n <= 16; n++) {
            x.push(1);
        }
        return x;
    }

    private static void overflowOfEachCode() {
        for (String code : new String[] {"NUMBER 1", "DUP", "OVER", "WORD 1", "WORD 2"}) {
            StackTarget x = withSixteen(code);
            check.due(code + " on a full stack", x.run(0), StackTarget.OVERFLOW);
            check.due(code + " on a full stack: depth()", x.depth(), 16);
            check.due(code + " on a full stack: top(0)", x.top(0), 1);
            StackTarget room = withSixteen("DROP " + code);
            check.due("DROP " + code + " on a full stack", room.run(0), 0);
            check.due("DROP " + code + " on a full stack: depth()", room.depth(), 16);
        }
        StackTarget index = withSixteen("TIMES INDEX INDEX NEXT");
        check.due("INDEX on a full stack", index.run(0), StackTarget.OVERFLOW);
        check.due("INDEX on a full stack: depth()", index.depth(), 16);
        check.due("INDEX on a full stack: top(0)", index.top(0), 0);
        for (String code : new String[] {"ADD", "SUB", "MUL", "DIV", "DROP", "SWAP", "ROT", "EQUAL", "LESS", "FETCH",
            "STORE", "EMIT", "WORD 3", "IF THEN", "IF ELSE THEN", "BEGIN UNTIL", "TIMES NEXT"}) {
            check.due(code + " on a full stack", withSixteen(code).run(0), 0);
        }
    }

    private static void runsRefuse() {
        StackTarget x = Source.given("VARIABLE 1 DEFINE 0 NUMBER 5 EMIT END");
        check.due("not translated: run(0)", x.run(0), -1);
        x.translate();
        check.due("run(0)", x.run(0), 0);
        x.push(3);
        for (int name : new int[] {1, 2, 11, 12, -1, 80, MIN, MAX}) {
            check.due("run(" + name + ")", x.run(name), -1);
            check.output("run(" + name + ")", x, 5);
            check.stack("run(" + name + ")", x, 3);
        }
    }

    private static void runEmptiesTheOutput() {
        StackTarget x = Source.translated("DEFINE 0 NUMBER 5 EMIT NUMBER 6 EMIT END DEFINE 1 END DEFINE 2 DROP END");
        x.run(0);
        check.output("run(0)", x, 5, 6);
        x.run(0);
        check.output("run(0) again", x, 5, 6);
        x.run(1);
        check.output("run(1)", x);
        x.run(0);
        check.due("run(2)", x.run(2), StackTarget.UNDERFLOW);
        check.output("a run that stops at once", x);
    }

    private static void stoppedRunKeepsWhatItDid() {
        StackTarget x = Source.translated("VARIABLE 1 DEFINE 0 DUP EMIT DUP WORD 1 STORE NUMBER 0 DIV EMIT END");
        Source.pushAll(x, 2, 9);
        check.due("run(0)", x.run(0), StackTarget.DIVIDE);
        check.stack("stopped", x, 2, 9, 0);
        check.output("stopped", x, 9);
        check.due("stopped: variable(0)", x.variable(0), 9);
        check.due("stopped: run(0) again", x.run(0), StackTarget.DIVIDE);
        check.stack("stopped again", x, 2, 9, 0, 0);
        check.due("stopped again: variable(0)", x.variable(0), 0);
    }
}

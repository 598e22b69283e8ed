/** Promises 6 (push), 8 (depth), 9 (top), 10 (outputs), 11 (output) and 12 (variable). */
public final class StateTest {
    private static final Check check = new Check();
    private static final int[] NO_PLACES = {-1, -16, 16, 17, 1000, Integer.MIN_VALUE, Integer.MAX_VALUE};

    public static void main(String[] args) {
        pushCountsUpToSixteen();
        pushHasRoomAgainBelowSixteen();
        pushOnAStackFilledByARun();
        pushTakesEveryNumber();
        depthCountsFromZeroToSixteen();
        pushWorksInEveryState();
        topCountsFromAbove();
        topAnswersZeroWhereNoneIs();
        outputCountsFromTheFirst();
        outputAnswersZeroWhereNoneIs();
        sixteenOutputs();
        aFullOutputIsEmptiedByTheNextRun();
        variableTellsItsCell();
        variableAnswersZeroWhereNoneIs();
        variablesUpToTheLastAddress();
        askingChangesNothing();
        check.end();
    }

    /** "Answers -1 and changes nothing if the stack has 16 numbers; else how many it has then." */
    private static void pushCountsUpToSixteen() {
        StackTarget x = new StackTarget();
        for (int n = 1; n <= 16; n++) {
            check.due("push " + n, x.push(100 + n), n);
            check.due("push " + n + ": depth()", x.depth(), n);
            check.due("push " + n + ": top(0)", x.top(0), 100 + n);
        }
        check.due("17th push", x.push(5), -1);
        check.due("18th push", x.push(-1), -1);
        check.stack("sixteen", x, 101, 102, 103, 104, 105, 106, 107, 108, 109, 110, 111, 112, 113, 114, 115, 116);
    }

    private static void pushHasRoomAgainBelowSixteen() {
        StackTarget x = Source.translated("DEFINE 0 DROP END");
        for (int n = 1; n <= 16; n++) {
            x.push(n);
        }
        check.due("17th push", x.push(99), -1);
        check.due("run(0)", x.run(0), 0);
        check.due("push with one place free", x.push(50), 16);
        check.due("17th push again", x.push(99), -1);
        check.due("top(0)", x.top(0), 50);
        check.due("top(1)", x.top(1), 15);
        check.due("translate()", x.translate(), 0);
        check.due("push on the emptied stack", x.push(7), 1);
    }

    private static void pushOnAStackFilledByARun() {
        StackTarget x = Source.translated("DEFINE 0 NUMBER 15 TIMES INDEX NEXT END");
        check.due("run(0)", x.run(0), 0);
        check.due("16th number", x.push(1), 16);
        check.due("17th number", x.push(2), -1);
        check.due("full: depth()", x.depth(), 16);
        check.due("full: top(0)", x.top(0), 1);
    }

    private static void pushTakesEveryNumber() {
        StackTarget x = new StackTarget();
        Source.pushAll(x, 0, -1, Integer.MIN_VALUE, Integer.MAX_VALUE);
        check.stack("pushed", x, 0, -1, Integer.MIN_VALUE, Integer.MAX_VALUE);
    }

    private static void pushWorksInEveryState() {
        StackTarget x = Source.given("DEFINE 0 DUP EMIT END");
        check.due("not translated: push", x.push(1), 1);
        x.translate();
        check.due("translated: push", x.push(2), 1);
        x.run(0);
        check.due("after a run: push", x.push(3), 2);
        check.output("push keeps the output", x, 2);
        check.due("push keeps the translation", x.run(0), 0);
        x.clear();
        check.due("cleared: push", x.push(4), 3);
        check.stack("at last", x, 2, 3, 4);
    }

    /** "The number of numbers on the stack." */
    private static void depthCountsFromZeroToSixteen() {
        StackTarget x = Source.translated("DEFINE 0 DROP END");
        check.due("empty: depth()", x.depth(), 0);
        check.due("DROP on the empty stack", x.run(0), StackTarget.UNDERFLOW);
        check.due("still empty: depth()", x.depth(), 0);
        for (int n = 1; n <= 17; n++) {
            x.push(n);
        }
        for (int n = 16; n > 0; n--) {
            check.due("depth()", x.depth(), n);
            check.due("run(0)", x.run(0), 0);
        }
        check.due("empty again: depth()", x.depth(), 0);
    }

    private static void topCountsFromAbove() {
        StackTarget x = new StackTarget();
        Source.pushAll(x, 7, 8, 9);
        check.due("top(0)", x.top(0), 9);
        check.due("top(1)", x.top(1), 8);
        check.due("top(2)", x.top(2), 7);
    }

    /** "The number on the stack with so many others above it (0 is the top one); 0 if there is none." */
    private static void topAnswersZeroWhereNoneIs() {
        StackTarget x = Source.translated("DEFINE 0 DROP DROP END");
        check.due("empty: top(0)", x.top(0), 0);
        Source.pushAll(x, 7, 8, 9);
        x.run(0);
        check.due("one: top(0)", x.top(0), 7);
        check.due("one: top(1)", x.top(1), 0);
        check.due("one: top(2)", x.top(2), 0);
        for (int n = 0; n < 16; n++) {
            x.push(3);
        }
        check.due("sixteen: top(15)", x.top(15), 7);
        for (int below : NO_PLACES) {
            check.due("sixteen: top(" + below + ")", x.top(below), 0);
        }
    }

    private static void outputCountsFromTheFirst() {
        StackTarget x = Source.translated("DEFINE 0 EMIT EMIT EMIT END DEFINE 1 END");
        Source.pushAll(x, 7, 8, 9);
        check.due("run(0)", x.run(0), 0);
        check.output("three", x, 9, 8, 7);
        check.due("run(1)", x.run(1), 0);
        check.output("emptied", x);
        check.due("emptied: output(1)", x.output(1), 0);
    }

    /** "The number at the place in the output, counted from 0; 0 if there is none." */
    private static void outputAnswersZeroWhereNoneIs() {
        StackTarget x = new StackTarget();
        check.due("new: output(0)", x.output(0), 0);
        x = Source.translated("DEFINE 0 NUMBER 16 TIMES NUMBER 5 EMIT NEXT END");
        check.due("run(0)", x.run(0), 0);
        check.due("sixteen: output(0)", x.output(0), 5);
        check.due("sixteen: output(15)", x.output(15), 5);
        for (int place : NO_PLACES) {
            check.due("sixteen: output(" + place + ")", x.output(place), 0);
        }
    }

    /** "The number of numbers in the output.", of which there are at most 16. */
    private static void sixteenOutputs() {
        StackTarget x = Source.translated("DEFINE 0 NUMBER 20 TIMES INDEX EMIT NEXT END");
        check.due("run(0)", x.run(0), StackTarget.FULL);
        check.output("full", x, 0, 1, 2, 3, 4, 5, 6, 7, 8, 9, 10, 11, 12, 13, 14, 15);
        check.stack("full", x, 16);
    }

    private static void aFullOutputIsEmptiedByTheNextRun() {
        StackTarget x = Source.translated("DEFINE 0 NUMBER 16 TIMES INDEX EMIT NEXT END DEFINE 1 NUMBER 9 EMIT END");
        for (int time = 0; time < 2; time++) {
            check.due("run(0)", x.run(0), 0);
            check.due("full: outputs()", x.outputs(), 16);
            check.due("run(1)", x.run(1), 0);
            check.output("emptied", x, 9);
            check.due("emptied: output(15)", x.output(15), 0);
        }
    }

    private static void variableTellsItsCell() {
        StackTarget x = Source.translated("VARIABLE 4 VARIABLE 2 DEFINE 0 WORD 4 STORE WORD 2 STORE END");
        check.due("at first: variable(0)", x.variable(0), 0);
        check.due("at first: variable(1)", x.variable(1), 0);
        Source.pushAll(x, -5, 6);
        check.due("run(0)", x.run(0), 0);
        check.due("variable(0)", x.variable(0), 6);
        check.due("variable(1)", x.variable(1), -5);
        Source.pushAll(x, 8);
        check.due("run(0) with one number", x.run(0), StackTarget.UNDERFLOW);
        check.due("kept by a stop: variable(0)", x.variable(0), 8);
        check.due("kept by a stop: variable(1)", x.variable(1), -5);
    }

    /** "The value of the variable with the address; 0 if the program is not translated or there is none." */
    private static void variableAnswersZeroWhereNoneIs() {
        StackTarget x = Source.translated("VARIABLE 4 VARIABLE 2 DEFINE 0 WORD 2 STORE WORD 4 STORE END");
        Source.pushAll(x, 3, 3);
        x.run(0);
        for (int address : new int[] {-1, 2, 3, 11, 12, 100, Integer.MIN_VALUE, Integer.MAX_VALUE}) {
            check.due("variable(" + address + ")", x.variable(address), 0);
        }
        x.clear();
        Source.give(x, "VARIABLE 4 DEFINE 0 END");
        check.due("not translated: variable(0)", x.variable(0), 0);
        check.due("translate()", x.translate(), 0);
        check.due("fresh: variable(0)", x.variable(0), 0);
        check.due("of the earlier program: variable(1)", x.variable(1), 0);
    }

    private static void variablesUpToTheLastAddress() {
        StackTarget x = Source.given("DEFINE 0 NUMBER 11 TIMES INDEX NUMBER 100 ADD INDEX STORE NEXT END");
        for (int name = 1; name <= 11; name++) {
            Source.give(x, "VARIABLE " + name);
        }
        check.due("translate()", x.translate(), 0);
        check.due("run(0)", x.run(0), 0);
        for (int address = 0; address <= 10; address++) {
            check.due("eleven: variable(" + address + ")", x.variable(address), 100 + address);
        }
        for (int address : new int[] {-1, 11, 12, Integer.MIN_VALUE, Integer.MAX_VALUE}) {
            check.due("eleven: variable(" + address + ")", x.variable(address), 0);
        }
        check.due("a program without variables", Source.translated("DEFINE 0 END").variable(0), 0);
    }

    private static void askingChangesNothing() {
        StackTarget x = Source.translated("VARIABLE 1 DEFINE 0 DUP EMIT WORD 1 STORE END");
        Source.pushAll(x, 1, 2);
        x.run(0);
        for (int n = -3; n < 20; n++) {
            x.top(n);
            x.output(n);
            x.variable(n);
            x.depth();
            x.outputs();
            x.errorAt();
        }
        check.stack("asked", x, 1);
        check.output("asked", x, 2);
        check.due("asked: variable(0)", x.variable(0), 2);
        check.due("asked: run(0)", x.run(0), 0);
    }
}

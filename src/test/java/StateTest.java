/** Promises 6 (push), 8 (depth), 9 (top), 10 (outputs), 11 (output) and 12 (variable). */
public final class StateTest {
    private static final Check check = new Check();
    private static final int[] NO_PLACES = {-1, -16, 16, 17, 1000, Integer.MIN_VALUE, Integer.MAX_VALUE};

    public static void main(String[] args) {
        pushCountsUpToSixteen();
        pushTakesEveryNumber();
        pushWorksInEveryState();
        topCountsFromAbove();
        topAnswersZeroWhereNoneIs();
        outputCountsFromTheFirst();
        outputAnswersZeroWhereNoneIs();
        sixteenOutputs();
        variableTellsItsCell();
        variableAnswersZeroWhereNoneIs();
        askingChangesNothing();
        check.end();
    }

    private static void pushCountsUpToSixteen() {
        StackTarget x = new StackTarget();
        for (int n = 1; n <= 16; n++) {
            check.due("push " + n, x.push(100 + n), n);
            check.due("push " + n + ": depth()", x.depth(), n);
            check.due("push " + n + ": top(0)", x.top(0), 100 + n);
        }
        check.due("17th push", x.push(5), -1);
        check.due("18th push", x.push(-1), -1);
        check.stack("sixteen", x, 101, 102, 103, 104, 105, 106, 107, 108, 109, 110, 111, 112, 113, 114, 115, 116);
    }

    private static void pushTakesEveryNumber() {
        StackTarget x = new StackTarget();
        Source.pushAll(x, 0, -1, Integer.MIN_VALUE, Integer.MAX_VALUE);
        check.stack("pushed", x, 0, -1, Integer.MIN_VALUE, Integer.MAX_VALUE);
    }

    private static void pushWorksInEveryState() {
        StackTarget x = Source.given("DEFINE 0 DUP EMIT END");
        check.due("not translated: push", x.push(1), 1);
        x.translate();
        check.due("translated: push", x.push(2), 1);
        x.run(0);
        check.due("after a run: push", x.push(3), 2);
        check.output("push keeps the output", x, 2);
        check.due("push keeps the translation", x.run(0), 0);
        x.clear();
        check.due("cleared: push", x.push(4), 3);
        check.stack("at last", x, 2, 3, 4);
    }

    private static void topCountsFromAbove() {
        StackTarget x = new StackTarget();
        Source.pushAll(x, 7, 8, 9);
        check.due("top(0)", x.top(0), 9);
        check.due("top(1)", x.top(1), 8);
        check.due("top(2)", x.top(2), 7);
    }

    private static void topAnswersZeroWhereNoneIs() {
        StackTarget x = Source.translated("DEFINE 0 DROP DROP END");
        check.due("empty: top(0)", x.top(0), 0);
        Source.pushAll(x, 7, 8, 9);
        x.run(0);
        check.due("one: top(0)", x.top(0), 7);
        check.due("one: top(1)", x.top(1), 0);
        check.due("one: top(2)", x.top(2), 0);
        for (int n = 0; n < 16; n++) {
            x.push(3);
        }
        for (int below : NO_PLACES) {
            check.due("sixteen: top(" + below + ")", x.top(below), 0);
        }
    }

    private static void outputCountsFromTheFirst() {
        StackTarget x = Source.translated("DEFINE 0 EMIT EMIT EMIT END DEFINE 1 END");
        Source.pushAll(x, 7, 8, 9);
        check.due("run(0)", x.run(0), 0);
        check.output("three", x, 9, 8, 7);
        check.due("run(1)", x.run(1), 0);
        check.output("emptied", x);
        check.due("emptied: output(1)", x.output(1), 0);
    }

    private static void outputAnswersZeroWhereNoneIs() {
        StackTarget x = new StackTarget();
        check.due("new: output(0)", x.output(0), 0);
        x = Source.translated("DEFINE 0 NUMBER 16 TIMES NUMBER 5 EMIT NEXT END");
        check.due("run(0)", x.run(0), 0);
        for (int place : NO_PLACES) {
            check.due("sixteen: output(" + place + ")", x.output(place), 0);
        }
    }

    private static void sixteenOutputs() {
        StackTarget x = Source.translated("DEFINE 0 NUMBER 20 TIMES INDEX EMIT NEXT END");
        check.due("run(0)", x.run(0), StackTarget.FULL);
        check.output("full", x, 0, 1, 2, 3, 4, 5, 6, 7, 8, 9, 10, 11, 12, 13, 14, 15);
        check.stack("full", x, 16);
    }

    private static void variableTellsItsCell() {
        StackTarget x = Source.translated("VARIABLE 4 VARIABLE 2 DEFINE 0 WORD 4 STORE WORD 2 STORE END");
        check.due("at first: variable(0)", x.variable(0), 0);
        check.due("at first: variable(1)", x.variable(1), 0);
        Source.pushAll(x, -5, 6);
        check.due("run(0)", x.run(0), 0);
        check.due("variable(0)", x.variable(0), 6);
        check.due("variable(1)", x.variable(1), -5);
        Source.pushAll(x, 8);
        check.due("run(0) with one number", x.run(0), StackTarget.UNDERFLOW);
        check.due("kept by a stop: variable(0)", x.variable(0), 8);
        check.due("kept by a stop: variable(1)", x.variable(1), -5);
    }

    private static void variableAnswersZeroWhereNoneIs() {
        StackTarget x = Source.translated("VARIABLE 4 VARIABLE 2 DEFINE 0 WORD 2 STORE WORD 4 STORE END");
        Source.pushAll(x, 3, 3);
        x.run(0);
        for (int address : new int[] {-1, 2, 3, 11, 12, 100, Integer.MIN_VALUE, Integer.MAX_VALUE}) {
            check.due("variable(" + address + ")", x.variable(address), 0);
        }
        x.clear();
        Source.give(x, "VARIABLE 4 DEFINE 0 END");
        check.due("not translated: variable(0)", x.variable(0), 0);
        check.due("translate()", x.translate(), 0);
        check.due("fresh: variable(0)", x.variable(0), 0);
        check.due("of the earlier program: variable(1)", x.variable(1), 0);
    }

    private static void askingChangesNothing() {
        StackTarget x = Source.translated("VARIABLE 1 DEFINE 0 DUP EMIT WORD 1 STORE END");
        Source.pushAll(x, 1, 2);
        x.run(0);
        for (int n = -3; n < 20; n++) {
            x.top(n);
            x.output(n);
            x.variable(n);
            x.depth();
            x.outputs();
            x.errorAt();
        }
        check.stack("asked", x, 1);
        check.output("asked", x, 2);
        check.due("asked: variable(0)", x.variable(0), 2);
        check.due("asked: run(0)", x.run(0), 0);
    }
}

import java.util.Arrays;

/** Counts what was looked at, prints every answer that is not the one that is due. */
final class Check {
    private int seen;
    private int wrong;

    void due(String what, long got, long want) {
        seen++;
        if (got != want) {
            wrong++;
            System.out.println(what + " answered " + got + ", due is " + want);
        }
    }

    void due(String what, boolean got) {
        due(what, got ? 1 : 0, 1);
    }

    /** The stack from the bottom to the top, and nothing more. */
    void stack(String what, StackTarget x, int... want) {
        due(what + ": depth()", x.depth(), want.length);
        for (int i = 0; i < want.length; i++) {
            int below = want.length - 1 - i;
            due(what + ": top(" + below + ")", x.top(below), want[i]);
        }
        due(what + ": top(" + want.length + ")", x.top(want.length), 0);
    }

    /** The output from the first to the last, and nothing more. */
    void output(String what, StackTarget x, int... want) {
        due(what + ": outputs()", x.outputs(), want.length);
        for (int i = 0; i < want.length; i++) {
            due(what + ": output(" + i + ")", x.output(i), want[i]);
        }
        due(what + ": output(" + want.length + ")", x.output(want.length), 0);
    }

    /** The program, given to a new object, is due to have no error. */
    void fine(String text) {
        StackTarget x = Source.given(text);
        due(text + ": translate()", x.translate(), 0);
        due(text + ": errorAt()", x.errorAt(), 0);
    }

    /** The program, given to a new object, is due to have this error at this place. */
    void error(String text, int error, int place) {
        StackTarget x = Source.given(text);
        due(text + ": translate()", x.translate(), error);
        due(text + ": errorAt()", x.errorAt(), place);
        due(text + ": run(0)", x.run(0), -1);
    }

    /** Runs the body on the numbers, which are pushed from left to right; it is due to come to its end. */
    void gives(String body, int[] before, int... after) {
        stops(body, before, 0, after);
    }

    /** As gives, but the run is due to stop. */
    void stops(String body, int[] before, int stop, int... after) {
        String what = body + " on " + Arrays.toString(before);
        StackTarget x = Source.translated("DEFINE 0 " + body + " END");
        Source.pushAll(x, before);
        due(what + ": run(0)", x.run(0), stop);
        stack(what, x, after);
    }

    void end() {
        System.out.println(seen + " answers looked at, " + wrong + " not as due");
        if (wrong != 0) {
            System.exit(1);
        }
    }
}

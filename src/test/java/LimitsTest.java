/** The turns and calls of promise 7 (run), and promise 13 (order and limits). */
public final class LimitsTest {
    private static final Check check = new Check();

    public static void main(String[] args) {
        twoHundredNexts();
        nextStopsBeforeItCounts();
        untilStopsWithItsNumber();
        untilThatEndsMakesNoTurn();
        repeatMakesTurns();
        wordMakesTurns();
        variableMakesNoTurn();
        noOtherTokenMakesTurns();
        turnsOfAllSortsAddUp();
        turnsOfCalledWordsCountToo();
        eachRunHasItsOwnTurns();
        eightWordsInsideEachOther();
        tiredIsLookedAtBeforeNested();
        callsEndWithTheirWord();
        longestRuns();
        allOf512Calls();
        refusedCallsChangeNothing();
        refusedCallsDoNotTranslate();
        check.end();
    }

    /** Uses up so many turns with an empty stack. */
    private static String turns(int n) {
        return "NUMBER " + n + " TIMES NEXT ";
    }

    private static StackTarget ran(String program, int stop) {
        StackTarget x = Source.translated(program);
        check.due(program + ": run(0)", x.run(0), stop);
        return x;
    }

    /** "A run makes at most 200 turns; a token that would make one more stops with TIRED instead" */
    private static void twoHundredNexts() {
        ran("DEFINE 0 " + turns(199) + "END", 0);
        ran("DEFINE 0 " + turns(200) + "END", 0);
        ran("DEFINE 0 " + turns(201) + "END", StackTarget.TIRED);
        ran("DEFINE 0 " + turns(200) + turns(1) + "END", StackTarget.TIRED);
        ran("DEFINE 0 " + turns(200) + turns(0) + "END", 0);
    }

    /** "NEXT before it counts" */
    private static void nextStopsBeforeItCounts() {
        StackTarget x = ran("VARIABLE 1 DEFINE 0 NUMBER 500 TIMES INDEX WORD 1 STORE NEXT END", StackTarget.TIRED);
        check.due("the last count: variable(0)", x.variable(0), 200);
        check.stack("NEXT stopped", x);
    }

    /** "UNTIL does so with x still on the stack" */
    private static void untilStopsWithItsNumber() {
        StackTarget x = ran("DEFINE 0 NUMBER 0 BEGIN NUMBER 1 ADD NUMBER 0 UNTIL END", StackTarget.TIRED);
        check.stack("UNTIL stopped", x, 201, 0);
    }

    /** "if x is 0, makes a turn and goes on behind the BEGIN of this part; else goes on" */
    private static void untilThatEndsMakesNoTurn() {
        StackTarget x = ran("DEFINE 0 " + turns(200) + "BEGIN NUMBER 3 UNTIL BEGIN NUMBER -1 UNTIL NUMBER 5 END", 0);
        check.stack("UNTIL went on", x, 5);
        ran("DEFINE 0 NUMBER 201 BEGIN NUMBER 1 SUB DUP NUMBER 0 EQUAL UNTIL END", 0);
        ran("DEFINE 0 NUMBER 202 BEGIN NUMBER 1 SUB DUP NUMBER 0 EQUAL UNTIL END", StackTarget.TIRED);
        ran("DEFINE 0 " + turns(200) + "BEGIN UNTIL END", StackTarget.UNDERFLOW);
    }

    /** "makes a turn and goes on behind the BEGIN of this part" */
    private static void repeatMakesTurns() {
        ran("DEFINE 0 NUMBER 200 BEGIN DUP WHILE NUMBER 1 SUB REPEAT END", 0);
        StackTarget x = ran("DEFINE 0 NUMBER 201 BEGIN DUP WHILE NUMBER 1 SUB REPEAT END", StackTarget.TIRED);
        check.stack("REPEAT stopped", x, 0);
    }

    /** "For a word: makes a TURN (see below), then runs the word" */
    private static void wordMakesTurns() {
        ran("DEFINE 0 NUMBER 100 TIMES WORD 1 NEXT END DEFINE 1 END", 0);
        StackTarget x = ran("VARIABLE 2 DEFINE 0 NUMBER 101 TIMES INDEX WORD 2 STORE WORD 1 NEXT END DEFINE 1 END",
            StackTarget.TIRED);
        check.due("WORD stopped: variable(0)", x.variable(0), 100);
        ran("DEFINE 0 " + turns(199) + "WORD 1 END DEFINE 1 END", 0);
        StackTarget tired = ran("DEFINE 0 " + turns(200) + "WORD 1 END DEFINE 1 NUMBER 1 END", StackTarget.TIRED);
        check.stack("the word was not run", tired);
    }

    private static void variableMakesNoTurn() {
        StackTarget x = ran("VARIABLE 1 DEFINE 0 " + turns(200) + "WORD 1 WORD 1 END", 0);
        check.stack("variables", x, 0, 0);
        ran("VARIABLE 1 DEFINE 0 NUMBER 200 TIMES WORD 1 WORD 1 STORE NEXT END", 0);
    }

    private static void noOtherTokenMakesTurns() {
        StackTarget x = ran("DEFINE 0 " + turns(200) + "NUMBER 1 IF NUMBER 0 IF ELSE THEN ELSE THEN "
            + "BEGIN NUMBER 0 WHILE REPEAT NUMBER 0 TIMES NEXT NUMBER 1 TIMES INDEX NUMBER 8 EMIT NEXT END",
            StackTarget.TIRED);
        check.stack("only NEXT stopped", x, 0);
        check.output("only NEXT stopped", x, 8);
    }

    private static void turnsOfAllSortsAddUp() {
        String loops = turns(150) + "WORD 1 NUMBER 20 BEGIN NUMBER 1 SUB DUP NUMBER 0 EQUAL UNTIL "
            + "NUMBER 29 ADD BEGIN DUP WHILE NUMBER 1 SUB REPEAT ";
        ran("DEFINE 0 " + loops + "WORD 1 END DEFINE 1 END", 0);
        ran("DEFINE 0 " + loops + "WORD 1 WORD 1 END DEFINE 1 END", StackTarget.TIRED);
    }

    private static void turnsOfCalledWordsCountToo() {
        String caller = "DEFINE 0 " + turns(100) + "WORD 1 END DEFINE 1 ";
        ran(caller + turns(98) + "END", 0);
        ran(caller + turns(99) + "END", 0);
        ran(caller + turns(100) + "END", StackTarget.TIRED);
        ran("DEFINE 0 WORD 1 " + turns(100) + "END DEFINE 1 " + turns(99) + "END", 0);
        ran("DEFINE 0 WORD 1 " + turns(101) + "END DEFINE 1 " + turns(99) + "END", StackTarget.TIRED);
    }

    private static void eachRunHasItsOwnTurns() {
        StackTarget x = Source.translated("DEFINE 0 " + turns(200) + "END DEFINE 1 " + turns(201) + "END");
        check.due("first run", x.run(0), 0);
        check.due("second run", x.run(0), 0);
        check.due("a tired run", x.run(1), StackTarget.TIRED);
        check.due("after a tired run", x.run(0), 0);
    }

    /** Word 0 calls word 1, and so on; the last one emits. */
    private static String chain(int words) {
        StringBuilder text = new StringBuilder();
        for (int name = 0; name < words - 1; name++) {
            text.append("DEFINE ").append(name).append(" NUMBER ").append(name).append(" WORD ").append(name + 1).append(" END ");
        }
        return text + "DEFINE " + (words - 1) + " NUMBER 50 END";
    }

    /** "At most 8 words run inside each other, the one that was started by run() counting one" */
    private static void eightWordsInsideEachOther() {
        check.stack("seven", ran(chain(7), 0), 0, 1, 2, 3, 4, 5, 50);
        check.stack("eight", ran(chain(8), 0), 0, 1, 2, 3, 4, 5, 6, 50);
        check.stack("nine", ran(chain(9), StackTarget.NESTED), 0, 1, 2, 3, 4, 5, 6, 7);
        StackTarget x = ran("DEFINE 0 NUMBER 1 WORD 0 END", StackTarget.NESTED);
        check.stack("a word in itself", x, 1, 1, 1, 1, 1, 1, 1, 1);
        check.due("again", x.run(0), StackTarget.NESTED);
        check.due("again: depth()", x.depth(), 16);
        StackTarget variable = ran("VARIABLE 1 DEFINE 0 DUP IF NUMBER 1 SUB WORD 0 ELSE WORD 1 THEN END", StackTarget.UNDERFLOW);
        variable.push(7);
        check.due("a variable in the eighth word", variable.run(0), 0);
        check.stack("a variable in the eighth word", variable, 0, 0);
        variable.push(8);
        check.due("a ninth word", variable.run(0), StackTarget.NESTED);
        check.stack("a ninth word", variable, 0, 0, 0);
    }

    /** "a WORD that would make one more stops with NESTED (looked at after TIRED)" */
    private static void tiredIsLookedAtBeforeNested() {
        String deep = "DEFINE 0 DUP IF NUMBER 1 SUB WORD 0 ELSE WORD 1 THEN END DEFINE 1 ";
        StackTarget both = Source.translated(deep + turns(193) + "WORD 1 END");
        both.push(6);
        check.due("both: run(0)", both.run(0), StackTarget.TIRED);
        StackTarget one = Source.translated(deep + turns(192) + "WORD 1 END");
        one.push(6);
        check.due("NESTED with one turn left: run(0)", one.run(0), StackTarget.NESTED);
    }

    private static void callsEndWithTheirWord() {
        ran("DEFINE 0 " + Source.times(40, "WORD 1") + "END DEFINE 1 WORD 2 END DEFINE 2 END", 0);
        ran("DEFINE 0 NUMBER 50 TIMES WORD 1 NEXT END DEFINE 1 WORD 2 END DEFINE 2 END", 0);
    }

    /** As many tokens as one run can carry out: nothing but the turns may end it. */
    private static void longestRuns() {
        String filler = Source.times(35, "DUP DROP");
        StackTarget x = Source.translated("DEFINE 0 BEGIN " + filler + "NUMBER 0 UNTIL END");
        x.push(7);
        check.due("a long UNTIL loop: run(0)", x.run(0), StackTarget.TIRED);
        check.stack("a long UNTIL loop", x, 7, 0);
        StackTarget counted = Source.translated("DEFINE 0 NUMBER 200 TIMES " + filler + "NUMBER 1 ADD NEXT END");
        counted.push(7);
        check.due("a long TIMES loop: run(0)", counted.run(0), 0);
        check.stack("a long TIMES loop", counted, 207);
    }

    /** "An object is used for at most 512 calls after it has been made": the 512th is answered as any other. */
    private static void allOf512Calls() {
        StackTarget x = new StackTarget();
        int calls = 0;
        for (int[] token : new int[][] {{28, 1}, {26, 0}, {15, 1}, {12, 0}, {0, 1}, {1, 0}, {15, 1}, {13, 0}, {27, 0}}) {
            calls++;
            check.due("call " + calls + ": token", x.token(token[0], token[1]), calls);
        }
        check.due("call 10: translate()", x.translate(), 0);
        int runs = 0;
        for (calls = 11; calls < 512; calls++) {
            runs++;
            check.due("call " + calls + ": run(0)", x.run(0), 0);
        }
        check.due("call 512: variable(0)", x.variable(0), runs);
    }

    /** "Where nothing else is said, a call that is refused (by a code below 0 that is named, or by false) changes nothing." */
    private static void refusedCallsChangeNothing() {
        StackTarget x = Source.translated("VARIABLE 1 DEFINE 0 DUP EMIT WORD 1 STORE END " + fillUp(7));
        for (int n = 1; n <= 15; n++) {
            x.push(n);
        }
        check.due("run(0)", x.run(0), 0);
        check.due("fill up: push", x.push(30), 15);
        check.due("fill up: push", x.push(40), 16);
        for (int time = 0; time < 2; time++) {
            check.due("refused: token", x.token(28, 5), -1);
            check.due("refused: push", x.push(99), -1);
            check.due("refused: run(1)", x.run(1), -1);
            check.due("refused: run(9)", x.run(9), -1);
            check.due("refused: run(-1)", x.run(-1), -1);
            check.due("kept: depth()", x.depth(), 16);
            check.due("kept: top(0)", x.top(0), 40);
            check.due("kept: top(1)", x.top(1), 30);
            check.due("kept: top(15)", x.top(15), 1);
            check.output("kept", x, 15);
            check.due("kept: variable(0)", x.variable(0), 15);
            check.due("kept: errorAt()", x.errorAt(), 0);
        }
        check.due("still translated: run(2)", x.run(2), 0);
        check.due("the same tokens: translate()", x.translate(), 0);
    }

    /** Refused in a state without a translation, too. */
    private static void refusedCallsDoNotTranslate() {
        StackTarget x = Source.given("DEFINE 0 END " + Source.times(78, "ADD"));
        check.due("translate()", x.translate(), StackTarget.STRAY);
        for (int n = 1; n <= 16; n++) {
            x.push(n);
        }
        for (int time = 0; time < 2; time++) {
            check.due("refused: token", x.token(27, 0), -1);
            check.due("refused: push", x.push(99), -1);
            check.due("refused: run(0)", x.run(0), -1);
            check.due("kept: errorAt()", x.errorAt(), 2);
            check.stack("kept", x, 1, 2, 3, 4, 5, 6, 7, 8, 9, 10, 11, 12, 13, 14, 15, 16);
            check.output("kept", x);
        }
        check.due("the same tokens: translate()", x.translate(), StackTarget.STRAY);
    }

    /** Word 2, which drops a number, written so that the program has 80 tokens. */
    private static String fillUp(int tokensBefore) {
        int rest = 80 - tokensBefore - 3;
        return "DEFINE 2 " + Source.times(rest, "SWAP") + "DROP END";
    }
}

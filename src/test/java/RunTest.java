/** Promise 7 (run): what each token takes, gives and goes on with, and when it stops. */
public final class RunTest {
    private static final Check check = new Check();
    private static final int MIN = Integer.MIN_VALUE;
    private static final int MAX = Integer.MAX_VALUE;

    public static void main(String[] args) {
        numbers();
        arithmetic();
        arithmeticWraps();
        divisionGoesTowardZero();
        divisionByZeroStops();
        rearranging();
        comparing();
        comparingDoesNotWrap();
        cells();
        cellsAreZeroAtFirst();
        addressesEndWithTheLastVariable();
        addressesOfAnEarlierProgramAreGone();
        emitting();
        outputsAreAtMostSixteen();
        choices();
        emptyParts();
        onlyZeroIsFalse();
        untilLoops();
        whileLoops();
        counting();
        countingToZeroOrBelow();
        countingToTheGreatestNumber();
        counts();
        indexIsOfTheInnermostTimes();
        ownCountsForEachRunning();
        ownCountsAtEveryPlace();
        ownCountsInEightRunnings();
        words();
        runsItsOwnWord();
        runsRefuse();
        runsRefuseAfterTokenClearAndError();
        variablesAreNotRun();
        runOfAnEmptyWord();
        runEmptiesTheOutput();
        check.end();
    }

    private static void numbers() {
        check.gives("NUMBER 7", Source.row(), 7);
        check.gives("NUMBER -7 NUMBER 2147483647 NUMBER -2147483648", Source.row(3), 3, -7, MAX, MIN);
    }

    private static void arithmetic() {
        check.gives("ADD", Source.row(9, 5, 3), 9, 8);
        check.gives("SUB", Source.row(9, 5, 3), 9, 2);
        check.gives("MUL", Source.row(9, 5, -3), 9, -15);
        check.gives("DIV", Source.row(9, 17, 5), 9, 3);
    }

    /** "all arithmetic wraps as in Java" */
    private static void arithmeticWraps() {
        check.gives("ADD", Source.row(MAX, 1), MIN);
        check.gives("ADD", Source.row(MIN, -1), MAX);
        check.gives("ADD", Source.row(MIN, MIN), 0);
        check.gives("ADD", Source.row(MAX, MAX), -2);
        check.gives("SUB", Source.row(MIN, 1), MAX);
        check.gives("SUB", Source.row(MAX, -1), MIN);
        check.gives("SUB", Source.row(0, MIN), MIN);
        check.gives("MUL", Source.row(65536, 65536), 0);
        check.gives("MUL", Source.row(65536, 65537), 65536);
        check.gives("MUL", Source.row(MAX, MAX), 1);
        check.gives("MUL", Source.row(MIN, -1), MIN);
        check.gives("DIV", Source.row(MIN, -1), MIN);
    }

    /** "x / y toward zero" */
    private static void divisionGoesTowardZero() {
        check.gives("DIV", Source.row(-17, 5), -3);
        check.gives("DIV", Source.row(17, -5), -3);
        check.gives("DIV", Source.row(-17, -5), 3);
        check.gives("DIV", Source.row(4, 5), 0);
        check.gives("DIV", Source.row(-4, 5), 0);
        check.gives("DIV", Source.row(0, 5), 0);
        check.gives("DIV", Source.row(MIN, MAX), -1);
        check.gives("DIV", Source.row(MAX, MIN), 0);
        check.gives("DIV", Source.row(MIN, MIN), 1);
    }

    /** "stop with DIVIDE if y is 0" */
    private static void divisionByZeroStops() {
        check.stops("DIV", Source.row(4, 0), StackTarget.DIVIDE, 4, 0);
        check.stops("DIV", Source.row(0, 0), StackTarget.DIVIDE, 0, 0);
        check.stops("DIV", Source.row(MIN, 0), StackTarget.DIVIDE, MIN, 0);
        check.gives("DIV", Source.row(0, -1), 0);
    }

    private static void rearranging() {
        check.gives("DUP", Source.row(1, 2), 1, 2, 2);
        check.gives("DROP", Source.row(1, 2), 1);
        check.gives("SWAP", Source.row(1, 2, 3), 1, 3, 2);
        check.gives("OVER", Source.row(1, 2, 3), 1, 2, 3, 2);
        check.gives("ROT", Source.row(1, 2, 3, 4), 1, 3, 4, 2);
    }

    private static void comparing() {
        check.gives("EQUAL", Source.row(8, 4, 4), 8, 1);
        check.gives("EQUAL", Source.row(4, -4), 0);
        check.gives("LESS", Source.row(8, 4, 5), 8, 1);
        check.gives("LESS", Source.row(5, 4), 0);
        check.gives("LESS", Source.row(4, 4), 0);
    }

    /** A comparison by a difference would wrap here. */
    private static void comparingDoesNotWrap() {
        check.gives("LESS", Source.row(MIN, MAX), 1);
        check.gives("LESS", Source.row(MAX, MIN), 0);
        check.gives("LESS", Source.row(MIN, 1), 1);
        check.gives("LESS", Source.row(1, MIN), 0);
        check.gives("EQUAL", Source.row(MIN, MAX), 0);
        check.gives("EQUAL", Source.row(MIN, 0), 0);
        check.gives("EQUAL", Source.row(MIN, MIN), 1);
    }

    private static void cells() {
        StackTarget x = Source.translated("VARIABLE 7 VARIABLE 5 DEFINE 0 FETCH END DEFINE 1 STORE END DEFINE 2 WORD 5 WORD 7 END");
        Source.pushAll(x, 40, 1);
        check.due("STORE: run(1)", x.run(1), 0);
        check.stack("STORE", x);
        check.due("STORE: variable(0)", x.variable(0), 0);
        check.due("STORE: variable(1)", x.variable(1), 40);
        Source.pushAll(x, 6, 1);
        check.due("FETCH: run(0)", x.run(0), 0);
        check.stack("FETCH", x, 6, 40);
        check.due("addresses: run(2)", x.run(2), 0);
        check.stack("addresses", x, 6, 40, 1, 0);
    }

    /** "a cell for each variable (all 0 after translation)" */
    private static void cellsAreZeroAtFirst() {
        StackTarget x = Source.translated("VARIABLE 7 VARIABLE 5 DEFINE 0 WORD 7 FETCH WORD 5 FETCH END");
        check.due("first FETCH: run(0)", x.run(0), 0);
        check.stack("first FETCH", x, 0, 0);
    }

    /** "stop with ADDRESS if there is none" */
    private static void addressesEndWithTheLastVariable() {
        for (int variables = 0; variables <= 10; variables++) {
            for (int address : new int[] {-1, MIN, MAX, 12, variables}) {
                noSuchAddress(variables, address);
            }
            if (variables > 0) {
                StackTarget x = withVariables(variables);
                Source.pushAll(x, 5, variables - 1);
                check.due(variables + " variables: STORE at the last", x.run(1), 0);
                x.push(variables - 1);
                check.due(variables + " variables: FETCH at the last", x.run(0), 0);
                check.stack(variables + " variables", x, 5);
            }
        }
    }

    /** Word 0 is FETCH, word 1 is STORE. */
    private static StackTarget withVariables(int variables) {
        StringBuilder text = new StringBuilder("DEFINE 0 FETCH END DEFINE 1 STORE END ");
        for (int name = 2; name < 2 + variables; name++) {
            text.append("VARIABLE ").append(name).append(' ');
        }
        return Source.translated(text.toString());
    }

    private static void noSuchAddress(int variables, int address) {
        StackTarget x = withVariables(variables);
        Source.pushAll(x, 3, address);
        String what = variables + " variables: none at " + address;
        check.due(what + ": FETCH", x.run(0), StackTarget.ADDRESS);
        check.due(what + ": STORE", x.run(1), StackTarget.ADDRESS);
        check.stack(what, x, 3, address);
    }

    private static void addressesOfAnEarlierProgramAreGone() {
        StackTarget x = withVariables(10);
        x.clear();
        Source.give(x, "DEFINE 0 FETCH END VARIABLE 3");
        check.due("translate()", x.translate(), 0);
        x.push(1);
        check.due("FETCH at an address of before", x.run(0), StackTarget.ADDRESS);
    }

    private static void emitting() {
        StackTarget x = Source.translated("DEFINE 0 EMIT EMIT END");
        Source.pushAll(x, 1, 2, 3);
        check.due("EMIT: run(0)", x.run(0), 0);
        check.stack("EMIT", x, 1);
        check.output("EMIT", x, 3, 2);
    }

    /** "stop with FULL if the output has 16 numbers" */
    private static void outputsAreAtMostSixteen() {
        StackTarget x = Source.translated("DEFINE 0 TIMES INDEX EMIT NEXT END");
        for (int n = 0; n <= 20; n++) {
            x.push(n);
            check.due(n + " EMITs: run(0)", x.run(0), n <= 16 ? 0 : StackTarget.FULL);
            check.due(n + " EMITs: outputs()", x.outputs(), Math.min(n, 16));
            check.due(n + " EMITs: output(15)", x.output(15), n < 16 ? 0 : 15);
            check.due(n + " EMITs: depth()", x.depth(), Math.max(n - 16, 0));
        }
        check.stack("what was not emitted", x, 16, 16, 16, 16);
    }

    /** "if it is 0, goes on behind the ELSE of this part, or behind its THEN if it has no ELSE" */
    private static void choices() {
        String withElse = "IF NUMBER 1 ELSE NUMBER 2 THEN NUMBER 3";
        check.gives(withElse, Source.row(9, 5), 9, 1, 3);
        check.gives(withElse, Source.row(9, -1), 9, 1, 3);
        check.gives(withElse, Source.row(9, 0), 9, 2, 3);
        check.gives("IF NUMBER 1 THEN NUMBER 3", Source.row(1), 1, 3);
        check.gives("IF NUMBER 1 THEN NUMBER 3", Source.row(0), 3);
        String nested = "IF IF NUMBER 1 ELSE NUMBER 2 THEN ELSE IF NUMBER 3 THEN NUMBER 4 THEN NUMBER 5";
        check.gives(nested, Source.row(1, 1), 1, 5);
        check.gives(nested, Source.row(0, 1), 2, 5);
        check.gives(nested, Source.row(1, 0), 3, 4, 5);
        check.gives(nested, Source.row(0, 0), 4, 5);
    }

    private static void emptyParts() {
        check.gives("IF THEN", Source.row(0));
        check.gives("IF THEN", Source.row(1));
        check.gives("IF ELSE THEN", Source.row(0));
        check.gives("IF ELSE THEN", Source.row(1));
        check.gives("BEGIN UNTIL", Source.row(1));
        check.gives("BEGIN WHILE REPEAT", Source.row(0));
        check.gives("TIMES NEXT", Source.row(0));
        check.gives("TIMES NEXT", Source.row(3));
    }

    /** Every number but 0 goes on, be it below 0 or the least there is. */
    private static void onlyZeroIsFalse() {
        for (int x : new int[] {1, -1, 2, 256, 65536, MIN, MAX}) {
            check.gives("IF NUMBER 7 THEN", Source.row(x), 7);
            check.gives("IF NUMBER 7 ELSE NUMBER 8 THEN", Source.row(x), 7);
            check.gives("BEGIN NUMBER 7 SWAP UNTIL", Source.row(x), 7);
            check.gives("BEGIN WHILE NUMBER 7 NUMBER 0 REPEAT", Source.row(x), 7);
        }
        check.gives("IF NUMBER 7 THEN", Source.row(0));
        check.gives("IF NUMBER 7 ELSE NUMBER 8 THEN", Source.row(0), 8);
        check.gives("BEGIN UNTIL NUMBER 7", Source.row(1, 0), 7);
        check.gives("BEGIN WHILE NUMBER 7 NUMBER 0 REPEAT", Source.row(0));
    }

    private static void untilLoops() {
        check.gives("BEGIN NUMBER 8 SWAP UNTIL NUMBER 9", Source.row(1), 8, 9);
        check.gives("BEGIN NUMBER 1 ADD DUP NUMBER 5 EQUAL UNTIL", Source.row(2), 5);
        check.gives("BEGIN UNTIL", Source.row(3, -1, 0, 0), 3);
        check.stops("BEGIN UNTIL", Source.row(0, 0), StackTarget.UNDERFLOW);
        check.gives("BEGIN BEGIN UNTIL UNTIL", Source.row(7, 1, 1, 0, 1, 0, 0, 1), 7);
    }

    /** "if x is 0, goes on behind the REPEAT of this part; else goes on" */
    private static void whileLoops() {
        check.gives("BEGIN WHILE NUMBER 1 EMIT REPEAT NUMBER 4", Source.row(6, 0, 2, -3), 6, 4);
        check.gives("BEGIN WHILE REPEAT", Source.row(6, 0), 6);
        check.gives("BEGIN DUP NUMBER 10 LESS WHILE NUMBER 3 ADD REPEAT", Source.row(2), 11);
        check.gives("BEGIN DUP WHILE DUP BEGIN DUP WHILE NUMBER 1 SUB REPEAT DROP NUMBER 1 SUB REPEAT", Source.row(4), 0);
    }

    /** "if it is below n, goes on behind the TIMES, else goes on" */
    private static void counting() {
        check.gives("TIMES INDEX NEXT NUMBER 7", Source.row(4), 0, 1, 2, 3, 7);
        check.gives("TIMES INDEX NEXT NUMBER 7", Source.row(2), 0, 1, 7);
        check.gives("TIMES INDEX NEXT NUMBER 7", Source.row(1), 0, 7);
    }

    /** "if n is 0 or below, goes on behind the NEXT of this part" */
    private static void countingToZeroOrBelow() {
        for (int n : new int[] {0, -1, -2, -200, MIN, MIN + 1}) {
            check.gives("TIMES INDEX NEXT NUMBER 7", Source.row(5, n), 5, 7);
            check.gives("TIMES NUMBER 1 TIMES INDEX NEXT IF THEN NEXT NUMBER 7", Source.row(n), 7);
            check.gives("NUMBER 2 TIMES DUP TIMES NUMBER 9 NEXT INDEX SWAP NEXT DROP", Source.row(n), 0, 1);
        }
    }

    private static void countingToTheGreatestNumber() {
        check.gives("TIMES NEXT", Source.row(200));
        check.stops("TIMES NEXT", Source.row(201), StackTarget.TIRED);
        check.stops("TIMES NEXT", Source.row(MAX), StackTarget.TIRED);
    }

    private static void counts() {
        check.gives("TIMES NUMBER 2 TIMES INDEX NEXT INDEX NUMBER 10 MUL NEXT", Source.row(3), 0, 1, 0, 0, 1, 10, 0, 1, 20);
        check.gives("TIMES INDEX NUMBER 1 EQUAL IF INDEX ELSE INDEX NUMBER 5 ADD THEN NEXT", Source.row(3), 5, 1, 7);
        check.gives("TIMES BEGIN INDEX NUMBER 1 UNTIL NEXT", Source.row(3), 0, 1, 2);
        check.gives("TIMES NEXT TIMES INDEX NEXT", Source.row(2, 3), 0, 1);
        check.gives("NUMBER 1 IF TIMES INDEX NEXT THEN", Source.row(3), 0, 1, 2);
        check.gives(Source.times(6, "NUMBER 2 TIMES") + "NUMBER 1 ADD " + Source.times(6, "NEXT"), Source.row(0), 64);
    }

    /** "the count of the innermost open part of sort TIMES around the token" */
    private static void indexIsOfTheInnermostTimes() {
        StackTarget x = Source.translated("DEFINE 0 " + Source.times(5, "NUMBER 1 TIMES") + "NUMBER 3 TIMES INDEX EMIT NEXT "
            + Source.times(5, "INDEX EMIT NEXT") + "END");
        check.due("six TIMES: run(0)", x.run(0), 0);
        check.output("six TIMES", x, 0, 1, 2, 0, 0, 0, 0, 0);
        check.gives("NUMBER 3 TIMES " + Source.times(5, "NUMBER 1 IF") + "INDEX " + Source.times(5, "THEN") + "NEXT",
            Source.row(), 0, 1, 2);
    }

    /** "(each running of a word has counts of its own)" */
    private static void ownCountsForEachRunning() {
        StackTarget x = Source.translated("DEFINE 0 NUMBER 3 TIMES INDEX EMIT WORD 1 INDEX EMIT NEXT END "
            + "DEFINE 1 NUMBER 2 TIMES INDEX NUMBER 100 ADD EMIT NEXT END");
        check.due("own counts: run(0)", x.run(0), 0);
        check.output("own counts", x, 0, 100, 101, 0, 1, 100, 101, 1, 2, 100, 101, 2);
        StackTarget self = Source.translated("DEFINE 0 DUP IF NUMBER 2 TIMES INDEX EMIT DUP NUMBER 1 SUB WORD 0 NEXT THEN DROP END");
        self.push(2);
        check.due("own counts of one word: run(0)", self.run(0), 0);
        check.output("own counts of one word", self, 0, 0, 1, 1, 0, 1);
    }

    /** Wherever the two counts stand among the open parts of their words, neither touches the other. */
    private static void ownCountsAtEveryPlace() {
        for (int outer = 0; outer <= 5; outer++) {
            for (int inner = 0; inner <= 5; inner++) {
                StackTarget x = Source.translated("DEFINE 0 " + inside(outer, "NUMBER 3 TIMES INDEX EMIT WORD 1 INDEX EMIT NEXT ")
                    + "END DEFINE 1 " + inside(inner, "NUMBER 5 TIMES INDEX WORD 2 STORE NEXT ") + "END VARIABLE 2");
                String what = "a count in part " + outer + " around one in part " + inner;
                check.due(what + ": run(0)", x.run(0), 0);
                check.output(what, x, 0, 0, 1, 1, 2, 2);
                check.due(what + ": variable(0)", x.variable(0), 4);
            }
        }
    }

    private static String inside(int parts, String body) {
        return Source.times(parts, "NUMBER 1 IF") + body + Source.times(parts, "THEN");
    }

    /** Each of eight runnings starts the next one in its second turn, and finds its own count again behind it. */
    private static void ownCountsInEightRunnings() {
        for (int parts = 0; parts <= 3; parts++) {
            StackTarget x = Source.translated("DEFINE 0 " + inside(parts,
                "NUMBER 2 TIMES INDEX IF DUP IF NUMBER 1 SUB WORD 0 NUMBER 1 ADD THEN THEN INDEX EMIT NEXT ") + "END");
            x.push(7);
            check.due("eight runnings: run(0)", x.run(0), 0);
            check.output("eight runnings", x, 0, 0, 0, 0, 0, 0, 0, 0, 1, 1, 1, 1, 1, 1, 1, 1);
            check.stack("eight runnings", x, 7);
        }
    }

    private static void words() {
        StackTarget x = Source.translated("DEFINE 0 WORD 1 NUMBER 1 WORD 2 NUMBER 3 END DEFINE 1 NUMBER 10 WORD 2 END "
            + "DEFINE 2 NUMBER 20 END");
        check.due("words: run(0)", x.run(0), 0);
        check.stack("words", x, 10, 20, 1, 20, 3);
        StackTarget stopped = Source.translated("DEFINE 0 NUMBER 1 WORD 1 NUMBER 2 END DEFINE 1 DROP DROP END");
        check.due("a stop inside: run(0)", stopped.run(0), StackTarget.UNDERFLOW);
        check.stack("a stop inside", stopped);
        check.due("run again from the start", stopped.run(0), StackTarget.UNDERFLOW);
        stopped.push(5);
        check.due("run again, with a number more", stopped.run(0), 0);
        check.stack("run again", stopped, 2);
    }

    private static void runsItsOwnWord() {
        StackTarget x = Source.translated("DEFINE 0 NUMBER 1 END VARIABLE 3 DEFINE 11 NUMBER 2 END DEFINE 5 END");
        check.due("run(11)", x.run(11), 0);
        check.stack("run(11)", x, 2);
        check.due("run(0)", x.run(0), 0);
        check.due("run(5)", x.run(5), 0);
        check.stack("run(0), run(5)", x, 2, 1);
    }

    /** "or -1, and changes nothing, if the program is not translated or name is not the name of a word of it" */
    private static void runsRefuse() {
        StackTarget x = Source.given("VARIABLE 1 DEFINE 0 NUMBER 5 EMIT END");
        check.due("not translated: run(0)", x.run(0), -1);
        x.translate();
        check.due("run(0)", x.run(0), 0);
        x.push(3);
        for (int name : new int[] {1, 2, 11, 12, -1, 80, MIN, MAX}) {
            check.due("run(" + name + ")", x.run(name), -1);
            check.output("run(" + name + ")", x, 5);
            check.stack("run(" + name + ")", x, 3);
        }
    }

    /** A refused run keeps output, stack and variables also of a program that is translated no more. */
    private static void runsRefuseAfterTokenClearAndError() {
        StackTarget x = Source.translated("VARIABLE 1 DEFINE 0 NUMBER 5 EMIT NUMBER 6 END");
        check.due("run(0)", x.run(0), 0);
        Source.give(x, "ADD");
        refused("after token", x);
        check.due("translate()", x.translate(), StackTarget.STRAY);
        refused("after an error", x);
        x.clear();
        refused("after clear", x);
    }

    private static void refused(String what, StackTarget x) {
        for (int name = -1; name <= 12; name++) {
            check.due(what + ": run(" + name + ")", x.run(name), -1);
        }
        check.output(what, x, 5);
        check.stack(what, x, 6);
    }

    /** "(a variable is none)" */
    private static void variablesAreNotRun() {
        for (int name = 0; name <= 11; name++) {
            StackTarget x = Source.translated("VARIABLE " + name + " DEFINE " + (name + 1) % 12 + " NUMBER 5 EMIT END");
            check.due("the word: run", x.run((name + 1) % 12), 0);
            check.due("the variable: run(" + name + ")", x.run(name), -1);
            check.stack("the variable " + name, x);
            check.output("the variable " + name, x, 5);
        }
    }

    private static void runOfAnEmptyWord() {
        StackTarget x = Source.translated("DEFINE 0 NUMBER 4 EMIT END DEFINE 1 END");
        x.push(3);
        check.due("run(0)", x.run(0), 0);
        check.due("an empty word: run(1)", x.run(1), 0);
        check.stack("an empty word", x, 3);
        check.output("an empty word", x);
    }

    /** "Empties the output and runs the word." */
    private static void runEmptiesTheOutput() {
        StackTarget x = Source.translated("DEFINE 0 NUMBER 5 EMIT NUMBER 6 EMIT END DEFINE 1 END DEFINE 2 DROP END");
        x.run(0);
        check.output("run(0)", x, 5, 6);
        x.run(0);
        check.output("run(0) again", x, 5, 6);
        x.run(1);
        check.output("run(1)", x);
        x.run(0);
        check.due("run(2)", x.run(2), StackTarget.UNDERFLOW);
        check.output("a run that stops at once", x);
    }
}

/** Promises 1 (a new object), 2 (token) and 3 (clear). */
public final class ProgramTest {
    private static final Check check = new Check();

    public static void main(String[] args) {
        newObjectIsEmpty();
        newObjectIsNotTranslated();
        objectsAreApart();
        tokenCountsUp();
        tokenTakesAnyCodeAndArg();
        tokenEndsTranslation();
        tokenKeepsStackAndOutput();
        tokenRefusesThe81st();
        refusedTokenKeepsTranslation();
        refusedTokenChangesNoError();
        clearRemovesAllTokens();
        clearEndsTranslation();
        clearOfAnEmptyProgram();
        clearKeepsStackOutputAndErrorPlace();
        clearKeepsAFullMachine();
        clearMakesRoomAgain();
        check.end();
    }

    /** "No token; not translated; stack and output empty." */
    private static void newObjectIsEmpty() {
        StackTarget x = new StackTarget();
        check.stack("new", x);
        check.output("new", x);
        check.due("new: errorAt()", x.errorAt(), 0);
        check.due("new: first token", x.token(0, 0), 1);
    }

    private static void newObjectIsNotTranslated() {
        StackTarget x = new StackTarget();
        for (int name = -1; name <= 12; name++) {
            check.due("new: run(" + name + ")", x.run(name), -1);
            check.due("new: variable(" + name + ")", x.variable(name), 0);
        }
    }

    private static void objectsAreApart() {
        StackTarget one = Source.translated("VARIABLE 0 DEFINE 1 DUP EMIT WORD 0 STORE END");
        StackTarget two = Source.translated("VARIABLE 0 DEFINE 1 DUP EMIT WORD 0 STORE END");
        Source.pushAll(one, 3, 4);
        check.due("one: run(1)", one.run(1), 0);
        check.stack("one", one, 3);
        check.stack("two", two);
        check.output("one", one, 4);
        check.output("two", two);
        check.due("one: variable(0)", one.variable(0), 4);
        check.due("two: variable(0)", two.variable(0), 0);
    }

    private static void tokenCountsUp() {
        StackTarget x = new StackTarget();
        for (int n = 1; n <= 80; n++) {
            check.due("token " + n, x.token(n % 29, n), n);
        }
    }

    private static void tokenTakesAnyCodeAndArg() {
        StackTarget x = new StackTarget();
        int[] odd = {-1, 29, 1000, Integer.MIN_VALUE, Integer.MAX_VALUE};
        for (int i = 0; i < odd.length; i++) {
            check.due("token(" + odd[i] + ")", x.token(odd[i], odd[odd.length - 1 - i]), i + 1);
        }
    }

    /** "Adds a token at the end of the program; the program is not translated then." */
    private static void tokenEndsTranslation() {
        StackTarget x = Source.translated("VARIABLE 0 DEFINE 1 NUMBER 7 WORD 0 STORE END");
        check.due("before token: run(1)", x.run(1), 0);
        check.due("before token: variable(0)", x.variable(0), 7);
        check.due("token", x.token(28, 2), 7);
        check.due("after token: run(1)", x.run(1), -1);
        check.due("after token: variable(0)", x.variable(0), 0);
        check.due("again: translate()", x.translate(), 0);
        check.due("again: variable(0)", x.variable(0), 0);
        check.due("again: run(1)", x.run(1), 0);
        check.due("again: run(2), a variable", x.run(2), -1);
    }

    private static void tokenKeepsStackAndOutput() {
        StackTarget x = Source.translated("DEFINE 0 DUP EMIT DUP EMIT END");
        Source.pushAll(x, 5, 6);
        x.run(0);
        x.token(28, 1);
        check.stack("after token", x, 5, 6);
        check.output("after token", x, 6, 6);
    }

    /** "Answers -1 and changes nothing if there are 80 tokens; else the number of tokens then." */
    private static void tokenRefusesThe81st() {
        StackTarget x = Source.given("DEFINE 0 " + Source.times(78, "NUMBER 1") + "END");
        check.due("81st token", x.token(0, 0), -1);
        check.due("82nd token", x.token(26, 1), -1);
        check.due("80 tokens: translate()", x.translate(), 0);
        check.due("80 tokens: run(0)", x.run(0), StackTarget.OVERFLOW);
        check.due("80 tokens: run(1)", x.run(1), -1);
    }

    private static void refusedTokenChangesNoError() {
        StackTarget x = Source.given("DEFINE 0 " + Source.times(79, "DUP"));
        check.due("open: translate()", x.translate(), StackTarget.OPEN);
        check.due("81st token, an END", x.token(27, 0), -1);
        check.due("still open: translate()", x.translate(), StackTarget.OPEN);
        check.due("still open: errorAt()", x.errorAt(), 80);
    }

    private static void refusedTokenKeepsTranslation() {
        StackTarget x = Source.translated("VARIABLE 3 DEFINE 0 NUMBER 9 WORD 3 STORE " + Source.times(74, "ADD") + "END");
        check.due("run(0)", x.run(0), StackTarget.UNDERFLOW);
        check.due("variable(0)", x.variable(0), 9);
        check.due("81st token", x.token(28, 1), -1);
        check.due("still translated: variable(0)", x.variable(0), 9);
        check.due("still translated: run(0)", x.run(0), StackTarget.UNDERFLOW);
    }

    /** "Removes all tokens" */
    private static void clearRemovesAllTokens() {
        StackTarget x = Source.given("DEFINE 0 IF");
        x.clear();
        check.due("cleared: translate()", x.translate(), 0);
        check.due("cleared: run(0)", x.run(0), -1);
        x.clear();
        check.due("cleared: first token", x.token(28, 0), 1);
        check.due("cleared: the name is free again", x.translate(), 0);
    }

    /** "the program is not translated then", also if it was empty before. */
    private static void clearEndsTranslation() {
        StackTarget x = Source.translated("VARIABLE 0 DEFINE 1 NUMBER 7 WORD 0 STORE END");
        x.run(1);
        x.clear();
        check.due("cleared: run(1)", x.run(1), -1);
        check.due("cleared: variable(0)", x.variable(0), 0);
        check.due("cleared: translate()", x.translate(), 0);
        x.clear();
        check.due("cleared again: run(1)", x.run(1), -1);
        check.due("cleared again: first token", x.token(28, 0), 1);
    }

    private static void clearOfAnEmptyProgram() {
        StackTarget x = new StackTarget();
        x.clear();
        x.clear();
        check.stack("nothing to clear", x);
        check.output("nothing to clear", x);
        check.due("nothing to clear: errorAt()", x.errorAt(), 0);
        check.due("nothing to clear: run(0)", x.run(0), -1);
        check.due("nothing to clear: first token", x.token(28, 0), 1);
        check.due("nothing to clear: translate()", x.translate(), 0);
    }

    private static void clearKeepsAFullMachine() {
        StackTarget x = Source.translated("DEFINE 0 NUMBER 16 TIMES INDEX EMIT INDEX NEXT END");
        check.due("run(0)", x.run(0), 0);
        x.clear();
        int[] sixteen = {0, 1, 2, 3, 4, 5, 6, 7, 8, 9, 10, 11, 12, 13, 14, 15};
        check.stack("cleared", x, sixteen);
        check.output("cleared", x, sixteen);
        check.due("cleared: push", x.push(1), -1);
    }

    /** "Stack and output stay." */
    private static void clearKeepsStackOutputAndErrorPlace() {
        StackTarget x = Source.given("DEFINE 0 EMIT EMIT END ADD");
        check.due("translate()", x.translate(), StackTarget.STRAY);
        x.clear();
        check.due("cleared: errorAt()", x.errorAt(), 4);
        Source.give(x, "DEFINE 0 EMIT EMIT END");
        check.due("translate()", x.translate(), 0);
        Source.pushAll(x, 1, 2, 3);
        x.run(0);
        x.clear();
        check.stack("cleared", x, 1);
        check.output("cleared", x, 3, 2);
    }

    private static void clearMakesRoomAgain() {
        StackTarget x = Source.given(Source.times(80, "ADD"));
        check.due("81st token", x.token(1, 0), -1);
        x.clear();
        for (int n = 1; n <= 80; n++) {
            check.due("after clear: token " + n, x.token(1, 0), n);
        }
        check.due("after clear: 81st token", x.token(1, 0), -1);
    }
}

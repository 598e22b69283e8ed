/** Promises 4 (translate) and 5 (errorAt). */
public final class TranslateTest {
    private static final Check check = new Check();
    private static final int[] NO_NAMES = {-1, 12, 13, 80, 256, Integer.MIN_VALUE, Integer.MAX_VALUE};

    public static void main(String[] args) {
        programsWithoutError();
        noTokens();
        eightyTokens();
        placesAreCountedFromZero();
        outsideOnlyDefinitionsMayStand();
        codesOutOfTheTableAreStray();
        namesAreZeroToEleven();
        namesAreGivenOnce();
        definitionsDoNotStandInside();
        wordNeedsAName();
        openDefinition();
        openIsLookedAtBeforeUnknown();
        unknownWords();
        theFirstErrorCounts();
        errorEndsTranslation();
        errorKeepsStackAndOutput();
        translationEmptiesTheMachine();
        translationEmptiesAFullMachine();
        noErrorYet();
        errorPlaceIsOfTheLastError();
        variablesGetAddressesInOrder();
        everyNameMayBeAVariable();
        eachTranslationStartsAnew();
        check.end();
    }

    private static void programsWithoutError() {
        check.fine("DEFINE 0 END");
        check.fine("DEFINE 11 END VARIABLE 0");
        check.fine("DEFINE 0 NUMBER 1 ADD SUB MUL DIV DUP DROP SWAP OVER ROT EQUAL LESS FETCH STORE EMIT END");
        check.fine("DEFINE 0 IF THEN IF ELSE THEN BEGIN UNTIL BEGIN WHILE REPEAT TIMES INDEX NEXT END");
        check.fine("DEFINE 0 IF BEGIN WHILE TIMES IF ELSE THEN NEXT REPEAT ELSE BEGIN UNTIL THEN END");
        check.fine("DEFINE 0 WORD 0 END");
        check.fine("DEFINE 0 WORD 1 WORD 2 END VARIABLE 2 DEFINE 1 END");
    }

    /** An empty program breaks no rule: "Else there is no error (0)." */
    private static void noTokens() {
        check.fine("");
        StackTarget x = new StackTarget();
        Source.pushAll(x, 3, 4);
        check.due("no token: translate()", x.translate(), 0);
        check.stack("no token", x);
        for (int name = 0; name <= 11; name++) {
            check.due("no token: run(" + name + ")", x.run(name), -1);
        }
        check.due("no token: variable(0)", x.variable(0), 0);
    }

    /** "THE PROGRAM is a row of at most 80 TOKENS": the last one counts as any other. */
    private static void eightyTokens() {
        check.fine("DEFINE 0 " + Source.times(78, "DUP") + "END");
        check.fine("DEFINE 0 " + Source.times(77, "DUP") + "END VARIABLE 1");
        StackTarget x = Source.translated("DEFINE 0 " + Source.times(76, "DUP") + "END DEFINE 1 END");
        check.due("a word that ends with the 80th token: run(1)", x.run(1), 0);
    }

    /** "TOKENS, counted from 0": the first has the place 0, the 80th the place 79. */
    private static void placesAreCountedFromZero() {
        check.error("ADD", StackTarget.STRAY, 0);
        check.error("DEFINE 0 THEN", StackTarget.UNBALANCED, 1);
        String before = "DEFINE 0 " + Source.times(77, "DUP") + "END ";
        check.error(before + "DUP", StackTarget.STRAY, 79);
        check.error(before + "VARIABLE 12", StackTarget.BAD_NAME, 79);
        check.error(before + "DEFINE 0", StackTarget.TWICE, 79);
        check.error(before + "DEFINE 1", StackTarget.OPEN, 80);
        check.error("DEFINE 0 " + Source.times(78, "DUP") + "THEN", StackTarget.UNBALANCED, 79);
        check.error("DEFINE 0 " + Source.times(77, "DUP") + "WORD 1 END", StackTarget.UNKNOWN, 78);
    }

    /** "Any other token there: error STRAY." */
    private static void outsideOnlyDefinitionsMayStand() {
        for (String code : Source.CODES) {
            if (!code.equals("DEFINE") && !code.equals("VARIABLE")) {
                check.error(code, StackTarget.STRAY, 0);
                check.error("DEFINE 0 END VARIABLE 1 " + code, StackTarget.STRAY, 3);
            }
        }
        check.error("WORD 12", StackTarget.STRAY, 0);
    }

    /** "Codes that are not in the table: error STRAY (inside and outside)." */
    private static void codesOutOfTheTableAreStray() {
        codeOutOfTable("", 0);
        codeOutOfTable("DEFINE 0 END ", 2);
        codeOutOfTable("DEFINE 0 ", 1);
        codeOutOfTable("DEFINE 0 IF TIMES ", 3);
        codeOutOfTable("DEFINE 0 " + Source.times(6, "IF"), 7);
    }

    private static void codeOutOfTable(String before, int place) {
        for (int code : new int[] {-1, 29, 30, 255, 256, -256, Integer.MIN_VALUE, Integer.MAX_VALUE}) {
            StackTarget x = Source.given(before);
            x.token(code, 0);
            check.due(before + "code " + code + ": translate()", x.translate(), StackTarget.STRAY);
            check.due(before + "code " + code + ": errorAt()", x.errorAt(), place);
        }
    }

    /** "Names are the numbers 0 to 11."; "If arg is not a name: BAD_NAME" */
    private static void namesAreZeroToEleven() {
        for (int name = 0; name <= 11; name++) {
            check.fine("DEFINE " + name + " END");
            check.fine("VARIABLE " + name);
        }
        for (int name : NO_NAMES) {
            check.error("DEFINE " + name, StackTarget.BAD_NAME, 0);
            check.error("DEFINE 1 END DEFINE " + name + " END", StackTarget.BAD_NAME, 2);
            check.error("VARIABLE " + name, StackTarget.BAD_NAME, 0);
            check.error("VARIABLE 1 VARIABLE " + name, StackTarget.BAD_NAME, 1);
        }
    }

    /** "if the name is defined already (as word or variable, also by a definition that has just ended): TWICE" */
    private static void namesAreGivenOnce() {
        check.error("DEFINE 0 END DEFINE 0 END", StackTarget.TWICE, 2);
        check.error("DEFINE 0 END VARIABLE 0", StackTarget.TWICE, 2);
        check.error("VARIABLE 0 DEFINE 0 END", StackTarget.TWICE, 1);
        check.error("VARIABLE 0 VARIABLE 0", StackTarget.TWICE, 1);
        check.error("VARIABLE 11 DEFINE 3 END VARIABLE 4 DEFINE 11 END", StackTarget.TWICE, 4);
        StackTarget x = Source.translated("DEFINE 0 END VARIABLE 1");
        check.due("the same program again", x.translate(), 0);
    }

    /** "DEFINE and VARIABLE inside a definition: error STRAY.", whatever the name is. */
    private static void definitionsDoNotStandInside() {
        for (String code : new String[] {"DEFINE", "VARIABLE"}) {
            check.error("DEFINE 0 " + code + " 1", StackTarget.STRAY, 1);
            check.error("DEFINE 0 " + code + " 0", StackTarget.STRAY, 1);
            check.error("DEFINE 0 DUP " + code + " 12", StackTarget.STRAY, 2);
            check.error("DEFINE 0 IF " + code + " -1", StackTarget.STRAY, 2);
        }
    }

    /** "WORD arg: if arg is not a name: BAD_NAME." */
    private static void wordNeedsAName() {
        for (int name = 0; name <= 11; name++) {
            check.fine("DEFINE " + name + " WORD " + name + " END");
        }
        for (int name : NO_NAMES) {
            check.error("DEFINE 0 WORD " + name, StackTarget.BAD_NAME, 1);
            check.error("DEFINE 0 DUP WORD " + name + " END", StackTarget.BAD_NAME, 2);
        }
    }

    /** "if a definition has not ended: error OPEN, its place is the number of tokens" */
    private static void openDefinition() {
        check.error("DEFINE 0", StackTarget.OPEN, 1);
        check.error("DEFINE 0 IF", StackTarget.OPEN, 2);
        check.error("DEFINE 0 END DEFINE 1 NUMBER 3", StackTarget.OPEN, 4);
        check.error("DEFINE 0 " + Source.times(78, "DUP"), StackTarget.OPEN, 79);
        check.error("DEFINE 0 " + Source.times(79, "DUP"), StackTarget.OPEN, 80);
    }

    private static void openIsLookedAtBeforeUnknown() {
        check.error("DEFINE 0 WORD 5", StackTarget.OPEN, 2);
        check.error("DEFINE 0 WORD 5 END DEFINE 1", StackTarget.OPEN, 4);
    }

    /** "if some WORD arg has a name that is not defined anywhere in the program: error UNKNOWN, at the first such token" */
    private static void unknownWords() {
        check.error("DEFINE 0 WORD 1 END", StackTarget.UNKNOWN, 1);
        check.error("DEFINE 0 DUP WORD 0 WORD 2 WORD 1 END DEFINE 1 WORD 3 END", StackTarget.UNKNOWN, 3);
        check.error("DEFINE 0 WORD 1 WORD 11 END DEFINE 1 WORD 3 END VARIABLE 3", StackTarget.UNKNOWN, 2);
        StackTarget x = Source.translated("DEFINE 0 WORD 1 END DEFINE 1 END");
        x.clear();
        Source.give(x, "DEFINE 0 WORD 1 END");
        check.due("a name of an earlier program", x.translate(), StackTarget.UNKNOWN);
        check.due("a name of an earlier program: errorAt()", x.errorAt(), 1);
    }

    /** "TRANSLATION goes through the tokens in order and stops at the first one that breaks a rule" */
    private static void theFirstErrorCounts() {
        check.error("DEFINE 0 WORD 7 THEN END ADD", StackTarget.UNBALANCED, 2);
        check.error("DEFINE 0 WORD 7 END ADD", StackTarget.STRAY, 3);
        check.error("DEFINE 0 WORD 12 IF ELSE ELSE", StackTarget.BAD_NAME, 1);
        check.error("DEFINE 0 WORD 7 END DEFINE 0 WORD 8", StackTarget.TWICE, 3);
        check.error("VARIABLE 12 VARIABLE 1 VARIABLE 1", StackTarget.BAD_NAME, 0);
    }

    /** "Answers 0, or the error; in that case the program is not translated." */
    private static void errorEndsTranslation() {
        StackTarget x = Source.translated("VARIABLE 1 DEFINE 0 DUP WORD 1 STORE END");
        x.push(5);
        check.due("run(0)", x.run(0), 0);
        check.due("variable(0)", x.variable(0), 5);
        Source.give(x, "ADD");
        for (int time = 0; time < 2; time++) {
            check.due("translate()", x.translate(), StackTarget.STRAY);
            check.due("after an error: run(0)", x.run(0), -1);
            check.due("after an error: variable(0)", x.variable(0), 0);
        }
    }

    private static void errorKeepsStackAndOutput() {
        StackTarget x = Source.translated("DEFINE 0 DUP EMIT DUP EMIT END");
        Source.pushAll(x, 4, 5);
        check.due("run(0)", x.run(0), 0);
        Source.give(x, "DEFINE 1");
        check.due("translate()", x.translate(), StackTarget.OPEN);
        check.stack("after an error", x, 4, 5);
        check.output("after an error", x, 5, 5);
        check.due("after an error: run(0)", x.run(0), -1);
        check.output("after a refused run", x, 5, 5);
    }

    /** "If it is 0, it is translated, all variables have the value 0, and stack and output are empty." */
    private static void translationEmptiesTheMachine() {
        StackTarget x = Source.given("VARIABLE 1 VARIABLE 2 DEFINE 0 DUP EMIT DUP WORD 2 STORE END");
        Source.pushAll(x, 1, 2);
        check.due("translate()", x.translate(), 0);
        check.stack("translated", x);
        Source.pushAll(x, 6, 7);
        check.due("run(0)", x.run(0), 0);
        check.due("variable(1)", x.variable(1), 7);
        check.due("translate() again", x.translate(), 0);
        check.stack("translated again", x);
        check.output("translated again", x);
        check.due("translated again: variable(1)", x.variable(1), 0);
        check.due("still without error: errorAt()", x.errorAt(), 0);
    }

    private static void translationEmptiesAFullMachine() {
        StackTarget x = new StackTarget();
        for (int name = 1; name <= 11; name++) {
            Source.give(x, "VARIABLE " + name);
        }
        Source.give(x, "DEFINE 0 NUMBER 11 TIMES NUMBER 7 INDEX STORE NEXT NUMBER 16 TIMES INDEX EMIT NUMBER 8 NEXT END");
        check.due("translate()", x.translate(), 0);
        check.due("run(0)", x.run(0), 0);
        check.due("full: depth()", x.depth(), 16);
        check.due("full: outputs()", x.outputs(), 16);
        check.due("full: variable(10)", x.variable(10), 7);
        check.due("full: translate()", x.translate(), 0);
        check.stack("emptied", x);
        check.output("emptied", x);
        for (int address = 0; address <= 11; address++) {
            check.due("emptied: variable(" + address + ")", x.variable(address), 0);
        }
        check.due("emptied: run(0)", x.run(0), 0);
    }

    /** "The place of the error of the last call of translate() that gave one (0 if there was none yet)." */
    private static void noErrorYet() {
        StackTarget x = new StackTarget();
        check.due("new: errorAt()", x.errorAt(), 0);
        Source.give(x, "VARIABLE 0 DEFINE 1 DROP END THEN");
        check.due("before translate(): errorAt()", x.errorAt(), 0);
        x.clear();
        Source.give(x, "VARIABLE 0 DEFINE 1 DROP END");
        check.due("translate()", x.translate(), 0);
        check.due("no error yet: errorAt()", x.errorAt(), 0);
        check.due("run(1)", x.run(1), StackTarget.UNDERFLOW);
        check.due("a stop is no error: errorAt()", x.errorAt(), 0);
    }

    private static void errorPlaceIsOfTheLastError() {
        StackTarget x = Source.given("DEFINE 0 DUP");
        check.due("before translate(): errorAt()", x.errorAt(), 0);
        check.due("translate()", x.translate(), StackTarget.OPEN);
        check.due("errorAt()", x.errorAt(), 2);
        Source.give(x, "END");
        check.due("after a token: errorAt()", x.errorAt(), 2);
        check.due("mended: translate()", x.translate(), 0);
        check.due("mended: errorAt()", x.errorAt(), 2);
        check.due("run(0)", x.run(0), StackTarget.UNDERFLOW);
        check.due("after a stop: errorAt()", x.errorAt(), 2);
        x.clear();
        Source.give(x, "THEN");
        check.due("translate()", x.translate(), StackTarget.STRAY);
        check.due("an error at the first token: errorAt()", x.errorAt(), 0);
    }

    /** "variables get the addresses 0, 1, 2 .. in order" */
    private static void variablesGetAddressesInOrder() {
        StackTarget x = Source.translated("VARIABLE 9 DEFINE 0 WORD 3 WORD 9 WORD 5 END VARIABLE 5 VARIABLE 3");
        check.due("run(0)", x.run(0), 0);
        check.stack("addresses", x, 2, 0, 1);
        StackTarget all = new StackTarget();
        for (int name = 11; name >= 1; name--) {
            Source.give(all, "VARIABLE " + name);
        }
        Source.give(all, "DEFINE 0 WORD 1 DUP DUP STORE WORD 11 SWAP END");
        check.due("eleven variables: translate()", all.translate(), 0);
        check.due("eleven variables: run(0)", all.run(0), 0);
        check.stack("eleven variables", all, 0, 10);
        check.due("eleven variables: variable(10)", all.variable(10), 10);
    }

    private static void everyNameMayBeAVariable() {
        StackTarget twelve = new StackTarget();
        for (int name = 0; name <= 11; name++) {
            Source.give(twelve, "VARIABLE " + name);
        }
        check.due("twelve variables: translate()", twelve.translate(), 0);
        Source.give(twelve, "VARIABLE 0");
        check.due("a thirteenth: translate()", twelve.translate(), StackTarget.TWICE);
        check.due("a thirteenth: errorAt()", twelve.errorAt(), 12);
    }

    private static void eachTranslationStartsAnew() {
        StackTarget x = Source.given("VARIABLE 1 VARIABLE 2 DEFINE 0 IF BEGIN TIMES");
        check.due("open parts: translate()", x.translate(), StackTarget.OPEN);
        x.clear();
        Source.give(x, "DEFINE 0 WORD 3 END VARIABLE 3");
        check.due("no open part of before: translate()", x.translate(), 0);
        check.due("run(0)", x.run(0), 0);
        check.stack("addresses count from 0 again", x, 0);
        check.due("no variable of before: run(1)", x.run(1), -1);
        check.due("translate() again", x.translate(), 0);
        check.due("run(0) again", x.run(0), 0);
        check.stack("addresses count from 0 once more", x, 0);
    }
}

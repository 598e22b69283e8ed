/** Promises 4 (translate) and 5 (errorAt). */
public final class TranslateTest {
    private static final Check check = new Check();

    public static void main(String[] args) {
        programsWithoutError();
        outsideOnlyDefinitionsMayStand();
        badNames();
        namesAreGivenOnce();
        unbalancedParts();
        atMostSixParts();
        indexNeedsTimes();
        strayInside();
        openDefinition();
        unknownWords();
        theFirstErrorCounts();
        errorEndsTranslationAndKeepsTheRest();
        translationEmptiesTheMachine();
        errorPlaceIsOfTheLastError();
        variablesGetAddressesInOrder();
        eachTranslationStartsAnew();
        check.end();
    }

    private static void fine(String text) {
        StackTarget x = Source.given(text);
        check.due(text + ": translate()", x.translate(), 0);
        check.due(text + ": errorAt()", x.errorAt(), 0);
    }

    private static void error(String text, int error, int place) {
        StackTarget x = Source.given(text);
        check.due(text + ": translate()", x.translate(), error);
        check.due(text + ": errorAt()", x.errorAt(), place);
        check.due(text + ": run(0)", x.run(0), -1);
    }

    private static void unbalanced(String text, int place) {
        error(text, StackTarget.UNBALANCED, place);
    }

    private static void programsWithoutError() {
        StackTarget empty = new StackTarget();
        check.due("no token: translate()", empty.translate(), 0);
        check.due("no token: errorAt()", empty.errorAt(), 0);
        fine("DEFINE 0 END");
        fine("DEFINE 11 END VARIABLE 0");
        fine("DEFINE 0 NUMBER 1 ADD SUB MUL DIV DUP DROP SWAP OVER ROT EQUAL LESS FETCH STORE EMIT END");
        fine("DEFINE 0 IF THEN IF ELSE THEN BEGIN UNTIL BEGIN WHILE REPEAT TIMES INDEX NEXT END");
        fine("DEFINE 0 IF BEGIN WHILE TIMES IF ELSE THEN NEXT REPEAT ELSE BEGIN UNTIL THEN END");
        fine("DEFINE 0 WORD 0 END");
        fine("DEFINE 0 WORD 1 WORD 2 END VARIABLE 2 DEFINE 1 END");
    }

    private static void outsideOnlyDefinitionsMayStand() {
        for (String code : Source.CODES) {
            if (!code.equals("DEFINE") && !code.equals("VARIABLE")) {
                error(code, StackTarget.STRAY, 0);
                error("DEFINE 0 END VARIABLE 1 " + code, StackTarget.STRAY, 3);
            }
        }
        error("WORD 12", StackTarget.STRAY, 0);
        codeOutOfTable("", 0);
        codeOutOfTable("DEFINE 0 END ", 2);
    }

    private static void codeOutOfTable(String before, int place) {
        for (int code : new int[] {-1, 29, 30, 255, Integer.MIN_VALUE, Integer.MAX_VALUE}) {
            StackTarget x = new StackTarget();
            if (!before.isEmpty()) {
                Source.give(x, before);
            }
            x.token(code, 0);
            check.due(before + "code " + code + ": translate()", x.translate(), StackTarget.STRAY);
            check.due(before + "code " + code + ": errorAt()", x.errorAt(), place);
        }
    }

    private static void badNames() {
        for (int name : new int[] {-1, 12, 13, Integer.MIN_VALUE, Integer.MAX_VALUE}) {
            error("DEFINE " + name, StackTarget.BAD_NAME, 0);
            error("VARIABLE 1 VARIABLE " + name, StackTarget.BAD_NAME, 1);
            error("DEFINE 0 DUP WORD " + name + " END", StackTarget.BAD_NAME, 2);
        }
        for (int name = 0; name <= 11; name++) {
            fine("DEFINE " + name + " WORD " + name + " END");
            fine("VARIABLE " + name);
        }
    }

    private static void namesAreGivenOnce() {
        error("DEFINE 0 END DEFINE 0 END", StackTarget.TWICE, 2);
        error("DEFINE 0 END VARIABLE 0", StackTarget.TWICE, 2);
        error("VARIABLE 0 DEFINE 0 END", StackTarget.TWICE, 1);
        error("VARIABLE 0 VARIABLE 0", StackTarget.TWICE, 1);
        error("VARIABLE 11 DEFINE 3 END VARIABLE 4 DEFINE 11 END", StackTarget.TWICE, 4);
        StackTarget x = Source.translated("DEFINE 0 END VARIABLE 1");
        check.due("the same program again", x.translate(), 0);
    }

    private static void unbalancedParts() {
        for (String code : new String[] {"ELSE", "THEN", "WHILE", "UNTIL", "REPEAT", "NEXT", "INDEX"}) {
            unbalanced("DEFINE 0 " + code, 1);
            unbalanced("DEFINE 0 IF THEN BEGIN UNTIL BEGIN WHILE REPEAT TIMES NEXT " + code, 10);
        }
        lastPartTakes("IF", 2, "ELSE THEN");
        lastPartTakes("IF ELSE", 3, "THEN");
        lastPartTakes("BEGIN", 2, "WHILE UNTIL");
        lastPartTakes("BEGIN WHILE", 3, "REPEAT");
        lastPartTakes("TIMES", 2, "NEXT INDEX");
        lastPartTakes("TIMES IF", 3, "ELSE THEN INDEX");
        unbalanced("DEFINE 0 IF BEGIN THEN UNTIL END", 3);
        unbalanced("DEFINE 0 BEGIN IF UNTIL THEN END", 3);
    }

    /** Behind these open parts, each code that needs something of them is due to be UNBALANCED, but for the fitting ones. */
    private static void lastPartTakes(String open, int place, String fitting) {
        for (String code : new String[] {"ELSE", "THEN", "WHILE", "UNTIL", "REPEAT", "NEXT", "INDEX", "END"}) {
            String text = "DEFINE 0 " + open + " " + code;
            if (!(" " + fitting + " ").contains(" " + code + " ")) {
                unbalanced(text, place);
            } else {
                error(text, StackTarget.OPEN, place + 1);
            }
        }
    }

    private static void atMostSixParts() {
        fine("DEFINE 0 IF BEGIN TIMES IF BEGIN TIMES NEXT UNTIL THEN NEXT UNTIL THEN END");
        for (String seventh : new String[] {"IF", "BEGIN", "TIMES"}) {
            error("DEFINE 0 IF BEGIN TIMES IF BEGIN TIMES " + seventh, StackTarget.DEEP, 7);
            error("DEFINE 0 IF ELSE " + Source.times(5, "IF") + seventh, StackTarget.DEEP, 8);
        }
        error("DEFINE 0 " + Source.times(6, "IF"), StackTarget.OPEN, 7);
        fine("DEFINE 0 " + Source.times(6, "IF") + "THEN IF THEN " + Source.times(5, "THEN") + "END");
        fine("DEFINE 0 " + Source.times(20, "IF THEN") + "END DEFINE 1 " + Source.times(6, "IF")
            + Source.times(6, "THEN") + "END");
    }

    private static void indexNeedsTimes() {
        fine("DEFINE 0 TIMES IF INDEX ELSE INDEX BEGIN INDEX WHILE INDEX REPEAT THEN NEXT END");
        unbalanced("DEFINE 0 TIMES NEXT INDEX END", 3);
        unbalanced("DEFINE 0 IF BEGIN INDEX UNTIL THEN END", 3);
        unbalanced("DEFINE 0 TIMES INDEX NEXT END DEFINE 1 INDEX END", 6);
    }

    private static void strayInside() {
        error("DEFINE 0 DEFINE 1", StackTarget.STRAY, 1);
        error("DEFINE 0 DUP VARIABLE 1", StackTarget.STRAY, 2);
        error("DEFINE 0 IF DEFINE 12", StackTarget.STRAY, 2);
        error("DEFINE 0 VARIABLE 0", StackTarget.STRAY, 1);
        codeOutOfTable("DEFINE 0 ", 1);
        codeOutOfTable("DEFINE 0 IF TIMES ", 3);
    }

    private static void openDefinition() {
        error("DEFINE 0", StackTarget.OPEN, 1);
        error("DEFINE 0 END DEFINE 1 NUMBER 3", StackTarget.OPEN, 4);
        error("DEFINE 0 WORD 5", StackTarget.OPEN, 2);
        error("DEFINE 0 " + Source.times(79, "DUP"), StackTarget.OPEN, 80);
    }

    private static void unknownWords() {
        error("DEFINE 0 WORD 1 END", StackTarget.UNKNOWN, 1);
        error("DEFINE 0 DUP WORD 0 WORD 2 WORD 1 END DEFINE 1 WORD 3 END", StackTarget.UNKNOWN, 3);
        error("DEFINE 0 WORD 1 WORD 11 END DEFINE 1 WORD 3 END VARIABLE 3", StackTarget.UNKNOWN, 2);
        StackTarget x = Source.translated("DEFINE 0 WORD 1 END DEFINE 1 END");
        x.clear();
        Source.give(x, "DEFINE 0 WORD 1 END");
        check.due("a name of an earlier program", x.translate(), StackTarget.UNKNOWN);
        check.due("a name of an earlier program: errorAt()", x.errorAt(), 1);
    }

    private static void theFirstErrorCounts() {
        error("DEFINE 0 WORD 7 THEN END ADD", StackTarget.UNBALANCED, 2);
        error("DEFINE 0 WORD 7 END ADD", StackTarget.STRAY, 3);
        error("DEFINE 0 WORD 12 IF ELSE ELSE", StackTarget.BAD_NAME, 1);
        error("DEFINE 0 WORD 7 END DEFINE 0 WORD 8", StackTarget.TWICE, 3);
        error("VARIABLE 12 VARIABLE 1 VARIABLE 1", StackTarget.BAD_NAME, 0);
    }

    private static void errorEndsTranslationAndKeepsTheRest() {
        StackTarget x = Source.translated("VARIABLE 1 DEFINE 0 DUP EMIT DUP WORD 1 STORE END");
        Source.pushAll(x, 4, 5);
        check.due("run(0)", x.run(0), 0);
        Source.give(x, "ADD");
        check.due("translate()", x.translate(), StackTarget.STRAY);
        check.stack("after an error", x, 4, 5);
        check.output("after an error", x, 5);
        check.due("after an error: run(0)", x.run(0), -1);
        check.due("after an error: variable(0)", x.variable(0), 0);
        check.output("after a refused run", x, 5);
    }

    private static void translationEmptiesTheMachine() {
        StackTarget x = Source.given("VARIABLE 1 VARIABLE 2 DEFINE 0 DUP EMIT DUP WORD 2 STORE END");
        Source.pushAll(x, 1, 2);
        check.due("translate()", x.translate(), 0);
        check.stack("translated", x);
        Source.pushAll(x, 6, 7);
        check.due("run(0)", x.run(0), 0);
        check.due("variable(1)", x.variable(1), 7);
        check.due("translate() again", x.translate(), 0);
        check.stack("translated again", x);
        check.output("translated again", x);
        check.due("translated again: variable(1)", x.variable(1), 0);
        check.due("still without error: errorAt()", x.errorAt(), 0);
    }

    private static void errorPlaceIsOfTheLastError() {
        StackTarget x = Source.given("DEFINE 0 DUP");
        check.due("before translate(): errorAt()", x.errorAt(), 0);
        check.due("translate()", x.translate(), StackTarget.OPEN);
        check.due("errorAt()", x.errorAt(), 2);
        Source.give(x, "END");
        check.due("after a token: errorAt()", x.errorAt(), 2);
        check.due("mended: translate()", x.translate(), 0);
        check.due("mended: errorAt()", x.errorAt(), 2);
        check.due("run(0)", x.run(0), StackTarget.UNDERFLOW);
        check.due("after a stop: errorAt()", x.errorAt(), 2);
        x.clear();
        Source.give(x, "THEN");
        check.due("translate()", x.translate(), StackTarget.STRAY);
        check.due("an error at the first token: errorAt()", x.errorAt(), 0);
    }

    private static void variablesGetAddressesInOrder() {
        StackTarget x = Source.translated("VARIABLE 9 DEFINE 0 WORD 3 WORD 9 WORD 5 END VARIABLE 5 VARIABLE 3");
        check.due("run(0)", x.run(0), 0);
        check.stack("addresses", x, 2, 0, 1);
        StackTarget all = new StackTarget();
        for (int name = 11; name >= 1; name--) {
            Source.give(all, "VARIABLE " + name);
        }
        Source.give(all, "DEFINE 0 WORD 1 DUP DUP STORE WORD 11 SWAP END");
        check.due("eleven variables: translate()", all.translate(), 0);
        check.due("eleven variables: run(0)", all.run(0), 0);
        check.stack("eleven variables", all, 0, 10);
        check.due("eleven variables: variable(10)", all.variable(10), 10);
        StackTarget twelve = new StackTarget();
        for (int name = 0; name <= 11; name++) {
            Source.give(twelve, "VARIABLE " + name);
        }
        check.due("twelve variables: translate()", twelve.translate(), 0);
        Source.give(twelve, "VARIABLE 0");
        check.due("a thirteenth: translate()", twelve.translate(), StackTarget.TWICE);
        check.due("a thirteenth: errorAt()", twelve.errorAt(), 12);
    }

    private static void eachTranslationStartsAnew() {
        StackTarget x = Source.given("VARIABLE 1 VARIABLE 2 DEFINE 0 IF BEGIN TIMES");
        check.due("open parts: translate()", x.translate(), StackTarget.OPEN);
        x.clear();
        Source.give(x, "DEFINE 0 WORD 3 END VARIABLE 3");
        check.due("no open part of before: translate()", x.translate(), 0);
        check.due("run(0)", x.run(0), 0);
        check.stack("addresses count from 0 again", x, 0);
        check.due("no variable of before: run(1)", x.run(1), -1);
        check.due("translate() again", x.translate(), 0);
        check.due("run(0) again", x.run(0), 0);
        check.stack("addresses count from 0 once more", x, 0);
    }
}

/** The rules of promise 4 (translate) for the open parts of a definition: UNBALANCED and DEEP. */
public final class PartsTest {
    private static final Check check = new Check();

    /** What opens nothing, or a part of each sort. */
    private static final String[] SORTS = {"", "IF ", "IF ELSE ", "BEGIN ", "BEGIN WHILE ", "TIMES "};

    public static void main(String[] args) {
        partsAreAtFirstEmpty();
        closedPartsAreOpenNoMore();
        elseNeedsIf();
        thenNeedsIfOrElse();
        whileNeedsBegin();
        untilNeedsBegin();
        repeatNeedsWhile();
        nextNeedsTimes();
        indexNeedsAnyTimes();
        indexNeedsATimesThatIsOpen();
        endNeedsThatNoPartIsOpen();
        sixPartsMayBeOpen();
        seventhPartIsTooDeep();
        changingAPartOpensNone();
        closedPartsMakeRoom();
        eachDefinitionHasItsOwnSixParts();
        check.end();
    }

    private static void unbalanced(String text, int place) {
        check.error(text, StackTarget.UNBALANCED, place);
    }

    /** "INSIDE a definition there is a row of open parts, at first empty." */
    private static void partsAreAtFirstEmpty() {
        for (String code : new String[] {"ELSE", "THEN", "WHILE", "UNTIL", "REPEAT", "NEXT", "INDEX"}) {
            unbalanced("DEFINE 0 " + code, 1);
            unbalanced("DEFINE 0 TIMES NEXT END DEFINE 1 " + code, 5);
        }
    }

    private static void closedPartsAreOpenNoMore() {
        for (String code : new String[] {"ELSE", "THEN", "WHILE", "UNTIL", "REPEAT", "NEXT", "INDEX"}) {
            unbalanced("DEFINE 0 IF THEN BEGIN UNTIL BEGIN WHILE REPEAT TIMES NEXT " + code, 10);
        }
        unbalanced("DEFINE 0 IF BEGIN THEN UNTIL END", 3);
        unbalanced("DEFINE 0 BEGIN IF UNTIL THEN END", 3);
    }

    /** "ELSE needs that the last open part is of sort IF" */
    private static void elseNeedsIf() {
        needsLastPart("ELSE", "IF ", "IF ");
    }

    /** "THEN needs the last open part to be of sort IF or ELSE" */
    private static void thenNeedsIfOrElse() {
        needsLastPart("THEN", "IF ", "IF ELSE ");
    }

    /** "WHILE needs sort BEGIN" */
    private static void whileNeedsBegin() {
        needsLastPart("WHILE", "BEGIN ", "BEGIN ");
    }

    /** "UNTIL needs sort BEGIN" */
    private static void untilNeedsBegin() {
        needsLastPart("UNTIL", "BEGIN ", "BEGIN ");
    }

    /** "REPEAT needs sort WHILE" */
    private static void repeatNeedsWhile() {
        needsLastPart("REPEAT", "BEGIN WHILE ", "BEGIN WHILE ");
    }

    /** "NEXT needs sort TIMES" */
    private static void nextNeedsTimes() {
        needsLastPart("NEXT", "TIMES ", "TIMES ");
    }

    /** Behind every two parts, of which either may be missing, only the last open one counts. */
    private static void needsLastPart(String code, String fitting, String fittingToo) {
        for (String outer : SORTS) {
            for (String inner : SORTS) {
                String last = inner.isEmpty() ? outer : inner;
                boolean fits = last.equals(fitting) || last.equals(fittingToo);
                needed(outer + inner, code, fits);
            }
        }
    }

    private static void needed(String open, String code, boolean fits) {
        String text = "DEFINE 0 " + open + code;
        int place = Source.tokens(text) - 1;
        if (fits) {
            check.error(text, StackTarget.OPEN, place + 1);
        } else {
            unbalanced(text, place);
        }
    }

    /** "INDEX needs that at least one open part (any, not only the last) is of sort TIMES." */
    private static void indexNeedsAnyTimes() {
        for (String outer : SORTS) {
            for (String inner : SORTS) {
                boolean fits = (outer + inner).contains("TIMES");
                needed(outer + inner, "INDEX", fits);
            }
        }
        check.fine("DEFINE 0 TIMES IF INDEX ELSE INDEX BEGIN INDEX WHILE INDEX REPEAT THEN NEXT END");
        needed("TIMES IF IF IF IF IF ", "INDEX", true);
        needed("IF IF IF IF IF TIMES ", "INDEX", true);
        needed("IF IF IF IF IF IF ", "INDEX", false);
    }

    private static void indexNeedsATimesThatIsOpen() {
        unbalanced("DEFINE 0 TIMES NEXT INDEX END", 3);
        unbalanced("DEFINE 0 IF TIMES NEXT INDEX THEN END", 4);
        unbalanced("DEFINE 0 TIMES INDEX NEXT END DEFINE 1 INDEX END", 6);
    }

    /** "END needs that no part is open, and ends the definition." */
    private static void endNeedsThatNoPartIsOpen() {
        for (String outer : SORTS) {
            for (String inner : SORTS) {
                String open = outer + inner;
                if (!open.isEmpty()) {
                    needed(open, "END", false);
                }
            }
        }
        unbalanced("DEFINE 0 " + Source.times(6, "IF") + "END", 7);
        check.fine("DEFINE 0 END");
        check.error("DEFINE 0 END END", StackTarget.STRAY, 2);
    }

    private static void sixPartsMayBeOpen() {
        check.fine("DEFINE 0 IF BEGIN TIMES IF BEGIN TIMES NEXT UNTIL THEN NEXT UNTIL THEN END");
        for (String sort : new String[] {"IF", "BEGIN", "TIMES"}) {
            check.error("DEFINE 0 " + Source.times(5, sort), StackTarget.OPEN, 6);
            check.error("DEFINE 0 " + Source.times(6, sort), StackTarget.OPEN, 7);
        }
    }

    /** "If 6 parts are open and a seventh would be opened: error DEEP." */
    private static void seventhPartIsTooDeep() {
        for (String seventh : new String[] {"IF", "BEGIN", "TIMES"}) {
            check.error("DEFINE 0 IF BEGIN TIMES IF BEGIN TIMES " + seventh, StackTarget.DEEP, 7);
            check.error("DEFINE 0 " + Source.times(6, seventh) + seventh + " END", StackTarget.DEEP, 7);
            check.error("DEFINE 0 IF ELSE " + Source.times(5, "IF") + seventh, StackTarget.DEEP, 8);
            check.error("DEFINE 0 BEGIN WHILE " + Source.times(5, "TIMES") + seventh, StackTarget.DEEP, 8);
        }
    }

    private static void changingAPartOpensNone() {
        check.fine("DEFINE 0 " + Source.times(6, "IF") + Source.times(6, "ELSE THEN") + "END");
        check.fine("DEFINE 0 " + Source.times(6, "BEGIN") + Source.times(6, "WHILE REPEAT") + "END");
        check.error("DEFINE 0 " + Source.times(6, "IF ELSE"), StackTarget.OPEN, 13);
        check.error("DEFINE 0 " + Source.times(6, "IF ELSE") + "IF", StackTarget.DEEP, 13);
    }

    private static void closedPartsMakeRoom() {
        check.fine("DEFINE 0 " + Source.times(6, "IF") + "THEN IF THEN " + Source.times(5, "THEN") + "END");
        check.error("DEFINE 0 " + Source.times(6, "BEGIN") + "UNTIL TIMES IF", StackTarget.DEEP, 9);
        check.fine("DEFINE 0 " + Source.times(39, "IF THEN") + "END");
    }

    private static void eachDefinitionHasItsOwnSixParts() {
        String six = Source.times(6, "IF") + Source.times(6, "THEN");
        check.fine("DEFINE 0 " + six + "END DEFINE 1 " + six + "END");
        check.error("DEFINE 0 " + six + "END DEFINE 1 " + Source.times(7, "IF"), StackTarget.DEEP, 21);
    }
}

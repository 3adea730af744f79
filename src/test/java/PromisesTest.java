// Every promise of the document by itself: ordinary calls, the edges that the document names, wrong calls.
public final class PromisesTest {
    private static final int UNKNOWN = FenceDuel.UNKNOWN;
    private static final int BAD_VALUE = FenceDuel.BAD_VALUE;
    private static final int FULL = FenceDuel.FULL;
    private static final int NOT_POSSIBLE = FenceDuel.NOT_POSSIBLE;
    private static final int NONE = FenceDuel.NONE;
    private static final int[] FAR_OFF = {Integer.MIN_VALUE, -1000, -1, Integer.MAX_VALUE};

    private static int asked = 0;
    private static int wrong = 0;

    private static void due(String what, int got, int want) {
        asked++;
        if (got != want) {
            wrong++;
            System.out.println(what + ": answered " + got + ", due is " + want);
        }
    }

    private static void typeText(FenceDuel x, String text) {
        x.clearText();
        for (int i = 0; i < text.length(); i++) {
            x.type(text.charAt(i));
        }
    }

    private static int performText(FenceDuel x, String text) {
        typeText(x, text);
        return x.perform();
    }

    // A field of a corner is shut in by its two fences.
    private static FenceDuel withCornerShut() {
        FenceDuel x = new FenceDuel();
        x.writeEdge(0, false, 0, 1);
        x.writeEdge(0, false, 0, 2);
        x.pass(3);
        return x;
    }

    private static FenceDuel withAllLettersWritten() {
        FenceDuel x = new FenceDuel();
        for (int i = 0; i < 60; i++) {
            due("letter " + i, x.writeTruce(0, 1), i);
        }
        return x;
    }

    private static FenceDuel onDay(int day) {
        FenceDuel x = new FenceDuel();
        int left = day;
        while (left > 0) {
            int days = Math.min(left, 99);
            due("pass to day " + day, x.pass(days), 0);
            left -= days;
        }
        return x;
    }

    private static void promise1() {
        FenceDuel x = new FenceDuel();
        int[] counts = {0, 0, 0, 0, 0, 0, 0, 0, 0, 0, 0, 0, 1, 0, 0, 0, 3, 9, 0, 0};
        for (int i = 0; i < counts.length; i++) {
            due("new count(" + i + ")", x.count(i), counts[i]);
        }
        for (int field = 0; field < 48; field++) {
            due("new owner", x.field(field, 0), NONE);
            due("new size", x.field(field, 1), 48);
            due("new free", x.field(field, 2), 48);
            due("new lowest", x.field(field, 3), 0);
            due("new edges", x.field(field, 4), 0);
        }
        due("new stopped", x.stopped(0), NONE);
        due("new undo", x.undo(), NONE);
        due("new restore", x.restore(), NONE);
        due("new next", x.next(0), NONE);
        due("new letter", x.letter(0, 0), UNKNOWN);
    }

    private static void promise2() {
        FenceDuel x = new FenceDuel();
        due("writeEdge", x.writeEdge(1, false, 9, 0), 0);
        due("writeEdge", x.writeEdge(0, true, 47, 3), 1);
        due("its player", x.letter(0, 0), 1);
        due("its kind", x.letter(0, 1), 0);
        due("gap's kind", x.letter(1, 1), 1);
        due("is an act", x.undo(), 1);
        due("is gone", x.letter(1, 0), UNKNOWN);
        for (int far : FAR_OFF) {
            due("player", x.writeEdge(far, false, 9, 0), UNKNOWN);
            due("field", x.writeEdge(0, false, far, 0), UNKNOWN);
            due("side", x.writeEdge(0, false, 9, far), UNKNOWN);
        }
        due("player 2", x.writeEdge(2, false, 9, 0), UNKNOWN);
        due("field 48", x.writeEdge(0, false, 48, 0), UNKNOWN);
        due("side 4", x.writeEdge(0, false, 9, 4), UNKNOWN);
        for (int column = 0; column < 8; column++) {
            due("north rim", x.writeEdge(0, false, column, 0), UNKNOWN);
            due("south rim", x.writeEdge(0, true, 40 + column, 2), UNKNOWN);
        }
        for (int row = 0; row < 6; row++) {
            due("west rim", x.writeEdge(0, false, row * 8, 3), UNKNOWN);
            due("east rim", x.writeEdge(0, true, row * 8 + 7, 1), UNKNOWN);
        }
        due("nothing was written", x.count(1), 1);
        due("nothing was recorded", x.count(18), 1);
        FenceDuel full = withAllLettersWritten();
        due("full", full.writeEdge(0, false, 9, 0), FULL);
        due("unknown ahead of full", full.writeEdge(0, false, 0, 0), UNKNOWN);
    }

    private static void promise3() {
        FenceDuel x = withCornerShut();
        due("writeClaim", x.writeClaim(1, 0), 2);
        due("its player", x.letter(2, 0), 1);
        due("its kind", x.letter(2, 1), 2);
        due("comes", x.pass(3), 1);
        due("is taken", x.field(0, 0), 1);
        due("too large", x.writeClaim(1, 1), 3);
        due("comes", x.pass(3), 1);
        due("refused", x.letter(3, 7), 5);
        due("again", x.writeClaim(0, 0), 4);
        due("comes", x.pass(3), 1);
        due("refused", x.letter(4, 7), 4);
        due("stays", x.field(0, 0), 1);
        due("player 2", x.writeClaim(2, 0), UNKNOWN);
        due("field 48", x.writeClaim(0, 48), UNKNOWN);
        for (int far : FAR_OFF) {
            due("player", x.writeClaim(far, 0), UNKNOWN);
            due("field", x.writeClaim(0, far), UNKNOWN);
        }
        FenceDuel full = withAllLettersWritten();
        due("full", full.writeClaim(0, 0), FULL);
        due("unknown ahead of full", full.writeClaim(0, 48), UNKNOWN);
        due("is an act", new FenceDuel().writeClaim(0, 5), 0);
        claimsTakeWhatIsNobodysOnly();
        claimsThatCross();
    }

    private static void claimsTakeWhatIsNobodysOnly() {
        FenceDuel x = withCornerShut();
        x.writeClaim(0, 0);
        x.pass(3);
        x.writeEdge(1, true, 0, 1);
        x.set(1, 48);
        x.pass(3);
        due("all is one region", x.field(47, 1), 48);
        due("but one field", x.field(47, 2), 47);
        x.writeClaim(1, 47);
        x.pass(3);
        due("stays", x.field(0, 0), 0);
        due("taken", x.field(47, 0), 1);
        due("fields of 0", x.count(7), 1);
        due("fields of 1", x.count(8), 47);
    }

    private static void claimsThatCross() {
        FenceDuel x = withCornerShut();
        x.writeClaim(0, 0);
        x.pass(2);
        x.writeClaim(1, 0);
        x.pass(1);
        due("the first takes it", x.field(0, 0), 0);
        x.pass(2);
        due("void", x.field(0, 0), NONE);
        due("the first stays done", x.letter(2, 6), 1);
        due("the second is refused", x.letter(3, 6), 2);
        due("for", x.letter(3, 7), 6);
        // A third one does not belong to this turn.
        x.writeClaim(1, 0);
        x.pass(3);
        due("a claim more", x.field(0, 0), 1);
        FenceDuel late = withCornerShut();
        late.writeClaim(0, 0);
        late.pass(3);
        late.writeClaim(1, 0);
        late.pass(3);
        due("not crossed: taken", late.letter(3, 7), 4);
        due("not crossed: another turn", late.letter(3, 8), 4);
        due("not crossed: stays", late.field(0, 0), 0);
        claimThatCrossesForAnotherField();
    }

    // Both claims are in one turn; the second one's field was its own player's long ahead of the first one.
    private static void claimThatCrossesForAnotherField() {
        FenceDuel x = withCornerShut();
        x.writeClaim(1, 0);
        x.pass(3);
        x.set(1, 48);
        x.writeClaim(0, 47);
        x.writeClaim(1, 0);
        x.pass(3);
        due("one turn", x.letter(4, 9), 3);
        due("taken", x.letter(4, 7), 4);
        due("the first's fields stay", x.field(47, 0), 0);
        // The same, where the field was the first one's player's ahead of its claim.
        FenceDuel y = withCornerShut();
        y.writeClaim(0, 0);
        y.pass(3);
        y.set(1, 48);
        y.writeClaim(0, 47);
        y.writeClaim(1, 0);
        y.pass(3);
        due("one turn", y.letter(4, 9), 3);
        due("taken", y.letter(4, 7), 4);
        due("nothing is void", y.count(7), 48);
        // The first one was refused: the second one stands for itself.
        FenceDuel z = withCornerShut();
        z.writeClaim(0, 1);
        z.writeClaim(1, 0);
        z.pass(3);
        due("the first is refused", z.letter(2, 7), 5);
        due("the second is done", z.letter(3, 6), 1);
        due("one turn", z.letter(3, 8), z.letter(2, 8));
    }

    private static void promise4() {
        FenceDuel x = new FenceDuel();
        due("writeTruce", x.writeTruce(0, 99), 0);
        due("writeTruce", x.writeTruce(1, 1), 1);
        due("kind", x.letter(0, 1), 3);
        due("both come", x.pass(3), 2);
        due("end of 0", x.count(14), 102);
        due("end of 1", x.count(15), 4);
        due("truce", x.count(13), 1);
        due("the day of an end", x.pass(1), 0);
        due("is no truce", x.count(13), 0);
        due("named anew", x.writeTruce(0, 2), 2);
        x.pass(3);
        due("the latest counts", x.count(14), 9);
        due("player 2", x.writeTruce(2, 1), UNKNOWN);
        due("days 0", x.writeTruce(0, 0), BAD_VALUE);
        due("days 100", x.writeTruce(1, 100), BAD_VALUE);
        due("player ahead of days", x.writeTruce(-1, 0), UNKNOWN);
        for (int far : FAR_OFF) {
            due("player", x.writeTruce(far, 1), UNKNOWN);
            due("days", x.writeTruce(0, far), BAD_VALUE);
        }
        truceEndsWithEitherEnd();
        FenceDuel full = withAllLettersWritten();
        due("full", full.writeTruce(0, 1), FULL);
        due("days ahead of full", full.writeTruce(0, 100), BAD_VALUE);
        due("player ahead of full", full.writeTruce(2, 1), UNKNOWN);
        full.undo();
        due("room again", full.writeTruce(1, 7), 59);
    }

    private static void truceEndsWithEitherEnd() {
        FenceDuel x = new FenceDuel();
        x.pass(2);
        x.writeTruce(0, 1);
        due("is an act", x.undo(), 1);
        due("of this call alone", x.count(0), 2);
        due("no letter", x.count(1), 0);
        x.writeTruce(0, 1);
        x.writeTruce(1, 2);
        x.pass(3);
        due("truce", x.count(13), 1);
        x.pass(1);
        due("the end of 0", x.count(13), 0);
        x.writeTruce(0, 50);
        x.undo();
        x.undo();
        x.undo();
        due("the end is undone", x.count(14), 0);
        due("turns are undone", x.count(5), 0);
    }

    private static void promise5() {
        FenceDuel x = new FenceDuel();
        x.writeEdge(0, false, 0, 1);
        x.pass(1);
        x.writeEdge(1, false, 0, 1);
        due("callBack", x.callBack(0), 2);
        due("called back", x.letter(0, 6), 3);
        due("again", x.callBack(0), NOT_POSSIBLE);
        due("is no more on its way", x.count(2), 1);
        due("never comes", x.pass(9), 1);
        due("it had no turn", x.letter(0, 8), NONE);
        due("the other has one alone", x.letter(1, 9), NONE);
        due("has come", x.callBack(1), NOT_POSSIBLE);
        due("recorded", x.count(18), 4);
        for (int far : FAR_OFF) {
            due("letter", x.callBack(far), UNKNOWN);
        }
        due("letter 2", x.callBack(2), UNKNOWN);
        FenceDuel y = new FenceDuel();
        y.writeTruce(0, 1);
        due("callBack", y.callBack(0), 3);
        due("is an act", y.undo(), 1);
        due("on its way again", y.letter(0, 6), 0);
    }

    private static void promise6() {
        FenceDuel x = new FenceDuel();
        x.writeEdge(0, false, 0, 1);
        x.writeEdge(0, false, 0, 1);
        x.writeEdge(1, true, 5, 1);
        due("pass", x.pass(2), 0);
        due("refused ones count", x.pass(1), 3);
        due("day", x.count(0), 3);
        due("by their numbers", x.letter(1, 7), 1);
        due("is an act", x.undo(), 3);
        due("day", x.count(0), 2);
        due("days 0", x.pass(0), BAD_VALUE);
        due("days 100", x.pass(100), BAD_VALUE);
        for (int far : FAR_OFF) {
            due("days", x.pass(far), BAD_VALUE);
        }
        FenceDuel late = onDay(9998);
        due("beyond the last day", late.pass(2), FULL);
        due("bad value ahead of it", late.pass(100), BAD_VALUE);
        due("nothing passed", late.count(0), 9998);
        due("the last day", late.pass(1), 0);
        due("beyond the last day", late.pass(1), FULL);
        due("may be written still", late.writeEdge(0, false, 0, 1), 0);
        due("in days", late.next(1), 3);
        due("comes at last", late.letter(0, 5), 10002);
        lettersComeByDayThenByNumber();
        FenceDuel full = withAllLettersWritten();
        due("none of them refused", full.ifAllCome(3), 0);
        due("all on one day", full.pass(3), 60);
        due("all done", full.count(3), 60);
    }

    private static void lettersComeByDayThenByNumber() {
        FenceDuel x = new FenceDuel();
        x.set(0, 9);
        x.writeEdge(0, false, 0, 1);
        x.set(0, 1);
        x.writeEdge(0, false, 0, 1);
        due("both", x.pass(99), 2);
        due("the later written came first", x.letter(1, 8), 1);
        due("and was done", x.letter(1, 6), 1);
        due("the other one came then", x.letter(0, 8), 2);
        due("and was refused", x.letter(0, 7), 1);
        due("day", x.count(0), 99);
        // The first that comes has nobody to share its turn with, whatever its number is.
        FenceDuel y = new FenceDuel();
        y.set(0, 9);
        y.writeEdge(0, false, 0, 1);
        y.set(0, 1);
        y.writeEdge(1, false, 0, 1);
        y.pass(1);
        due("alone", y.letter(1, 9), NONE);
        due("its fence", y.edge(0, 1), 2);
        y.pass(8);
        due("both crossed", y.letter(1, 9), 0);
        due("the hedge", y.edge(0, 1), 3);
        crossedLettersOfOtherKinds();
    }

    private static void crossedLettersOfOtherKinds() {
        FenceDuel x = new FenceDuel();
        x.set(0, 1);
        performText(x, "0f0e;.1;0g0e;1f0e;.1");
        due("one turn", x.letter(2, 9), 1);
        due("a fence behind a gap", x.edge(0, 1), 2);
        performText(x, "0f9e;1g9e;.1");
        due("one turn", x.letter(4, 9), 3);
        due("a gap behind a fence", x.edge(9, 1), 0);
        performText(x, "0f9e;1f9s;.1");
        due("fences at two edges", x.edge(9, 1) * 10 + x.edge(9, 2), 12);
        performText(x, "0f9e;1f9e;.1");
        due("the first was refused", x.letter(8, 7), 1);
        due("a fence still", x.edge(9, 1), 1);
    }

    private static void promise7() {
        FenceDuel x = new FenceDuel();
        due("set 0", x.set(0, 9), 3);
        due("set 0", x.set(0, 1), 9);
        due("set 1", x.set(1, 48), 9);
        due("set 1", x.set(1, 1), 48);
        due("so already", x.set(0, 1), NONE);
        due("so already", x.set(1, 1), NONE);
        due("recorded", x.count(18), 4);
        due("is an act", x.undo(), 3);
        due("undone", x.count(17), 48);
        due("value 0", x.set(0, 0), BAD_VALUE);
        due("value 10", x.set(0, 10), BAD_VALUE);
        due("value 0", x.set(1, 0), BAD_VALUE);
        due("value 49", x.set(1, 49), BAD_VALUE);
        due("which 2", x.set(2, 1), UNKNOWN);
        due("which ahead of value", x.set(-1, 99), UNKNOWN);
        for (int far : FAR_OFF) {
            due("which", x.set(far, 1), UNKNOWN);
            due("value", x.set(0, far), BAD_VALUE);
            due("value", x.set(1, far), BAD_VALUE);
        }
        FenceDuel y = new FenceDuel();
        y.writeTruce(0, 1);
        y.set(0, 9);
        y.writeTruce(0, 1);
        due("comes as it would", y.letter(0, 5), 3);
        due("the new way", y.letter(1, 5), 9);
    }

    private static void promise8() {
        FenceDuel x = new FenceDuel();
        for (int i = 1; i <= 60; i++) {
            due("type", x.type((char) (i * 1000)), i);
        }
        due("full", x.type('0'), FULL);
        due("length", x.count(19), 60);
        due("is no act", x.count(18), 0);
        due("fault", x.perform(), -100);
    }

    private static void promise9() {
        FenceDuel x = new FenceDuel();
        due("empty already", x.clearText(), 0);
        x.type('0');
        x.type('x');
        due("clearText", x.clearText(), 2);
        due("length", x.count(19), 0);
        due("clearText", x.clearText(), 0);
        due("is no act", x.count(18), 0);
        x.type('.');
        x.type('1');
        due("what was is gone", x.perform(), 1);
        x.pass(1);
        x.undo();
        due("undo() leaves the text", x.count(19), 2);
    }

    private static void faultOf(String text, int fault) {
        FenceDuel x = new FenceDuel();
        due("fault of " + text, performText(x, text), -100 - fault);
        due("no stop by " + text, x.stopped(0), NONE);
        due("nothing was done by " + text, x.count(18), 0);
    }

    private static void gameOf(String text, int things) {
        FenceDuel x = new FenceDuel();
        due("game of " + text, performText(x, text), things);
        due("one state by " + text, x.count(18), 1);
        due("text stays: " + text, x.count(19), text.length());
    }

    private static void promise10() {
        String[] games = {".1", ".99", ".10", "0c0", "1c47", "0c9", "1c40", "0t1", "1t99", "0f0e", "0f47n", "1g46w", "0g8s"};
        for (String game : games) {
            gameOf(game, 1);
        }
        gameOf("0f9e;1g9e;0c9;1t5;.3", 5);
        gameOf(".1;.1;.1;.1;.1;.1;.1;.1;.1;.1;.1;.1;.1;.1;.1;.1;.1;.1;.1;.11", 20);
        faultOf("", 0);
        faultOf("2c0", 0);
        faultOf(";", 0);
        faultOf(" .1", 0);
        faultOf(".", 1);
        faultOf(".0", 1);
        faultOf(".x", 1);
        faultOf(".100", 3);
        faultOf(".1x", 2);
        faultOf(".1;", 3);
        faultOf(".1;;", 3);
        faultOf(".1.1", 2);
        faultOf("1", 1);
        faultOf("1x", 1);
        faultOf("10c0", 1);
        faultOf("1F0e", 1);
        faultOf("0f", 2);
        faultOf("0f;", 2);
        faultOf("0fe", 2);
        faultOf("0f00e", 3);
        faultOf("0f01e", 3);
        faultOf("0f48e", 3);
        faultOf("0f50e", 3);
        faultOf("0f470e", 4);
        faultOf("0f4", 3);
        faultOf("0f47", 4);
        faultOf("0f4E", 3);
        faultOf("0f4;", 3);
        faultOf("0f4nn", 4);
        faultOf("0f4n1", 4);
        faultOf("0g4x", 3);
        faultOf("0c", 2);
        faultOf("0c48", 3);
        faultOf("0c-1", 2);
        faultOf("0c4n", 3);
        faultOf("0c00", 3);
        faultOf("0t0", 2);
        faultOf("0t", 2);
        faultOf("0t100", 4);
        faultOf("0t5;0", 5);
        faultOf("0t5 ", 3);
        faultOf("0c4" + (char) (256 + ';'), 3);
        faultOf("" + (char) 0xFFFF, 0);
        faultOf(".1;.1;.1;.1;.1;.1;.1;.1;.1;.1;.1;.1;.1;.1;.1;.1;.1;.1;.1;.1;", 60);
        performsAsTheCallsWould();
        performsAllOrNothing();
    }

    private static void performsAsTheCallsWould() {
        FenceDuel x = new FenceDuel();
        due("perform", performText(x, "0f9e;1g10s;0c11;1t12;.2;1f13w;0f14n;.1"), 8);
        due("day", x.count(0), 3);
        int[][] facts = {{0, 0, 9, 1, 0}, {1, 1, 10, 2, 0}, {0, 2, 11, NONE, 0}, {1, 3, NONE, 12, 0}, {1, 0, 13, 3, 2}, {0, 0, 14, 0, 2}};
        for (int letter = 0; letter < facts.length; letter++) {
            for (int what = 0; what < 5; what++) {
                due("letter " + letter + " of the game, " + what, x.letter(letter, what), facts[letter][what]);
            }
        }
        due("four have come", x.count(2), 2);
        due("one act", x.undo(), 0);
        due("all is undone", x.count(1), 0);
        due("day", x.count(0), 0);
        due("the text can be done again", x.perform(), 8);
        due("and again", x.perform(), 8);
        due("letters", x.count(1), 12);
    }

    private static void performsAllOrNothing() {
        FenceDuel x = new FenceDuel();
        x.set(0, 1);
        due("a rim", performText(x, "0f1e;.5;1c9;0f0n;.1"), NOT_POSSIBLE);
        due("its number", x.stopped(0), 3);
        due("its error", x.stopped(1), UNKNOWN);
        due("no letter", x.count(1), 0);
        due("no day", x.count(0), 0);
        due("no fence", x.edge(1, 1), 0);
        due("no state", x.count(18), 1);
        FenceDuel full = withAllLettersWritten();
        due("full of letters", performText(full, ".1;.2;0c0"), NOT_POSSIBLE);
        due("its number", full.stopped(0), 2);
        due("its error", full.stopped(1), FULL);
        due("day", full.count(0), 0);
        FenceDuel late = onDay(9990);
        due("full of days", performText(late, ".9;.1"), NOT_POSSIBLE);
        due("its number", late.stopped(0), 1);
        due("its error", late.stopped(1), FULL);
        due("day", late.count(0), 9990);
        due("states", late.count(18), 4);
        due("just so far", performText(late, ".8;.1"), 2);
    }

    private static void promise11() {
        FenceDuel x = new FenceDuel();
        due("nothing yet", x.stopped(0), NONE);
        due("nothing yet", x.stopped(1), NONE);
        performText(x, "x");
        due("a fault is no stop", x.stopped(0), NONE);
        performText(x, ".1;.1;0f7e");
        due("number", x.stopped(0), 2);
        due("error", x.stopped(1), UNKNOWN);
        performText(x, ".1");
        due("stays", x.stopped(0), 2);
        x.undo();
        due("stays with undo()", x.stopped(1), UNKNOWN);
        performText(x, "0f7e");
        due("the latest", x.stopped(0), 0);
        x.keep();
        x.restore();
        due("stays with restore()", x.stopped(0), 0);
        due("what 2", x.stopped(2), BAD_VALUE);
        for (int far : FAR_OFF) {
            due("what", x.stopped(far), BAD_VALUE);
            due("bad value ahead of none", new FenceDuel().stopped(far), BAD_VALUE);
        }
    }

    private static void promise12() {
        FenceDuel x = new FenceDuel();
        due("empty", x.undo(), NONE);
        for (int day = 1; day <= 6; day++) {
            x.pass(1);
            due("states", x.count(18), Math.min(day, 4));
        }
        for (int left = 3; left >= 0; left--) {
            due("undo", x.undo(), left);
            due("day", x.count(0), left + 2);
        }
        due("empty", x.undo(), NONE);
        due("nothing changed", x.count(0), 2);
        x.pass(5);
        due("anew", x.undo(), 0);
        due("day", x.count(0), 2);
        undoBringsTheTurnBack();
        errorsRecordNothing();
    }

    // The turn that waits for its second letter belongs to the state.
    private static void undoBringsTheTurnBack() {
        FenceDuel x = new FenceDuel();
        x.writeEdge(0, false, 0, 1);
        x.pass(1);
        x.writeEdge(1, false, 0, 1);
        x.pass(2);
        x.pass(1);
        due("a hedge", x.edge(0, 1), 3);
        x.undo();
        due("a fence again", x.edge(0, 1), 1);
        due("without a letter of the same turn", x.letter(0, 9), NONE);
        due("turns of two", x.count(6), 0);
        x.pass(1);
        due("a hedge again", x.edge(0, 1), 3);
        FenceDuel y = withCornerShut();
        y.writeClaim(0, 0);
        y.pass(1);
        y.writeClaim(1, 0);
        y.pass(2);
        y.keep();
        y.pass(1);
        due("void", y.field(0, 0), NONE);
        y.restore();
        due("taken", y.field(0, 0), 0);
        y.pass(1);
        due("void again", y.field(0, 0), NONE);
        y.undo();
        due("taken again", y.field(0, 0), 0);
    }

    private static void errorsRecordNothing() {
        FenceDuel x = new FenceDuel();
        x.writeEdge(0, false, 0, 0);
        x.writeClaim(0, 48);
        x.writeTruce(0, 0);
        x.callBack(0);
        x.pass(0);
        x.set(0, 3);
        x.set(3, 3);
        x.perform();
        x.restore();
        x.undo();
        x.keep();
        due("no state", x.count(18), 0);
    }

    private static void promise13() {
        FenceDuel x = new FenceDuel();
        due("keep", x.keep(), 0);
        x.pass(7);
        due("keep", x.keep(), 7);
        due("is no act", x.count(18), 1);
        x.pass(1);
        due("in place of the one that was", x.restore(), 7);
        x.undo();
        x.undo();
        x.undo();
        due("undo() leaves the snapshot", x.restore(), 7);
    }

    private static void promise14() {
        FenceDuel x = new FenceDuel();
        due("none", x.restore(), NONE);
        x.pass(4);
        x.writeEdge(0, false, 0, 1);
        x.set(1, 20);
        x.keep();
        x.pass(3);
        x.set(1, 30);
        x.writeClaim(0, 5);
        due("restore", x.restore(), 4);
        due("letters", x.count(1), 1);
        due("on its way", x.letter(0, 6), 0);
        due("setting", x.count(17), 20);
        due("edge", x.edge(0, 1), 0);
        due("is an act", x.undo(), 3);
        due("back", x.count(0), 7);
        due("letters", x.count(1), 2);
        due("stays", x.restore(), 4);
        due("stays", x.restore(), 4);
    }

    private static void promise15() {
        FenceDuel x = new FenceDuel();
        x.set(0, 1);
        x.writeEdge(0, false, 9, 1);
        x.writeEdge(1, false, 9, 2);
        x.pass(1);
        due("of 0", x.edge(9, 1), 1);
        due("from the other side", x.edge(10, 3), 1);
        due("of 1", x.edge(9, 2), 2);
        due("from the other side", x.edge(17, 0), 2);
        due("nothing", x.edge(9, 0), 0);
        due("nothing", x.edge(9, 3), 0);
        x.writeEdge(0, false, 9, 0);
        x.writeEdge(1, false, 1, 2);
        x.pass(1);
        due("hedge", x.edge(9, 0), 3);
        due("hedge", x.edge(1, 2), 3);
        x.writeEdge(1, true, 10, 3);
        x.writeEdge(1, true, 9, 0);
        x.pass(1);
        due("opened by the other player", x.edge(9, 1), 0);
        due("a hedge is not opened", x.edge(9, 0), 3);
        int told = 0;
        for (int field = 0; field < 48; field++) {
            for (int side = 0; side < 4; side++) {
                boolean rim = side == 0 && field < 8 || side == 1 && field % 8 == 7 || side == 2 && field >= 40 || side == 3 && field % 8 == 0;
                due("rim " + field + " " + side, x.edge(field, side) == UNKNOWN ? 1 : 0, rim ? 1 : 0);
                told++;
            }
        }
        due("all sides", told, 192);
        due("field 48", x.edge(48, 0), UNKNOWN);
        due("side 4", x.edge(9, 4), UNKNOWN);
        for (int far : FAR_OFF) {
            due("field", x.edge(far, 0), UNKNOWN);
            due("side", x.edge(9, far), UNKNOWN);
        }
        fencesOfOnePlayerOrNotCrossed();
    }

    private static void fencesOfOnePlayerOrNotCrossed() {
        FenceDuel x = new FenceDuel();
        x.writeEdge(0, false, 9, 1);
        x.writeEdge(0, false, 9, 1);
        x.pass(3);
        due("one player's letters do not cross", x.letter(1, 7), 1);
        due("they have a turn each", x.count(5), 2);
        x.writeEdge(1, false, 9, 1);
        x.pass(3);
        due("written on the day when the other came", x.letter(2, 7), 1);
        due("a fence still", x.edge(9, 1), 1);
        // A turn of two has no room for a third one, though it crossed.
        FenceDuel y = new FenceDuel();
        y.writeEdge(0, false, 9, 1);
        y.writeEdge(1, false, 20, 1);
        y.writeEdge(1, false, 9, 1);
        y.pass(3);
        due("third", y.letter(2, 7), 1);
        due("second", y.letter(1, 9), 0);
        due("third's turn", y.letter(2, 8), 2);
        // The latest turn alone counts: here it is another letter's.
        FenceDuel z = new FenceDuel();
        z.writeEdge(0, false, 9, 1);
        z.writeTruce(0, 1);
        z.writeEdge(1, false, 9, 1);
        z.pass(3);
        due("in the turn of the truce", z.letter(2, 9), 1);
        due("refused", z.letter(2, 7), 1);
        due("first's turn", z.letter(0, 9), NONE);
    }

    private static void promise16() {
        FenceDuel x = new FenceDuel();
        x.set(0, 1);
        performText(x, "0f0s;0f1s;1f2s;1f2e;0f11e;.1");
        due("region", x.field(0, 1), 3);
        due("region", x.field(2, 1), 3);
        due("the rest", x.field(3, 1), 45);
        due("free", x.field(1, 2), 3);
        due("lowest", x.field(2, 3), 0);
        due("lowest of the rest", x.field(8, 3), 3);
        due("edges", x.field(2, 4), 2);
        due("edges", x.field(1, 4), 1);
        due("edges", x.field(11, 4), 1);
        due("edges", x.field(12, 4), 1);
        due("edges", x.field(47, 4), 0);
        due("to the north", x.field(9, 4), 1);
        due("owner", x.field(1, 0), NONE);
        performText(x, "1c1;.1");
        due("owner", x.field(0, 0), 1);
        due("owner", x.field(2, 0), 1);
        due("not the rest's", x.field(3, 0), NONE);
        due("none are free", x.field(1, 2), 0);
        due("region stays", x.field(1, 1), 3);
        due("field 48", x.field(48, 0), UNKNOWN);
        due("field ahead of what", x.field(48, 5), UNKNOWN);
        due("what 5", x.field(0, 5), BAD_VALUE);
        for (int far : FAR_OFF) {
            due("field", x.field(far, 0), UNKNOWN);
            due("what", x.field(0, far), BAD_VALUE);
        }
    }

    private static void promise17() {
        FenceDuel x = withCornerShut();
        due("joined", x.joined(0), 1);
        due("joined", x.joined(1), 47);
        due("joined", x.joined(47), 47);
        x.set(0, 1);
        // A wall through all rows, so that 3 columns are to its west.
        performText(x, "0f2e;0f10e;0f18e;0f26e;0f34e;0f42e;.1");
        due("west", x.joined(1), 17);
        due("east", x.joined(3), 30);
        due("east", x.joined(47), 30);
        for (int field = 0; field < 48; field++) {
            due("both ways", x.joined(field), x.field(field, 1));
        }
        due("field 48", x.joined(48), UNKNOWN);
        for (int far : FAR_OFF) {
            due("field", x.joined(far), UNKNOWN);
        }
    }

    private static void promise18() {
        FenceDuel x = new FenceDuel();
        x.pass(2);
        x.writeEdge(1, false, 10, 3);
        x.writeClaim(0, 11);
        x.writeTruce(1, 12);
        x.writeEdge(0, true, 13, 0);
        x.callBack(3);
        int[][] ahead = {
            {1, 0, 10, 3, 2, 5, 0, 0, NONE, NONE},
            {0, 2, 11, NONE, 2, 5, 0, 0, NONE, NONE},
            {1, 3, NONE, 12, 2, 5, 0, 0, NONE, NONE},
            {0, 1, 13, 0, 2, 5, 3, 0, NONE, NONE}};
        int[][] then = {
            {1, 0, 10, 3, 2, 5, 1, 0, 1, 1},
            {0, 2, 11, NONE, 2, 5, 2, 5, 1, 0},
            {1, 3, NONE, 12, 2, 5, 1, 0, 2, NONE},
            {0, 1, 13, 0, 2, 5, 3, 0, NONE, NONE}};
        for (int letter = 0; letter < 4; letter++) {
            for (int what = 0; what < 10; what++) {
                due("letter(" + letter + ", " + what + ")", x.letter(letter, what), ahead[letter][what]);
            }
        }
        x.pass(4);
        for (int letter = 0; letter < 4; letter++) {
            for (int what = 0; what < 10; what++) {
                due("letter(" + letter + ", " + what + ") then", x.letter(letter, what), then[letter][what]);
            }
        }
        due("letter 4", x.letter(4, 0), UNKNOWN);
        due("letter ahead of what", x.letter(4, 10), UNKNOWN);
        due("what 10", x.letter(0, 10), BAD_VALUE);
        for (int far : FAR_OFF) {
            due("letter", x.letter(far, 0), UNKNOWN);
            due("what", x.letter(0, far), BAD_VALUE);
        }
    }

    private static void promise19() {
        FenceDuel x = new FenceDuel();
        x.writeTruce(0, 1);
        x.writeTruce(0, 1);
        x.pass(2);
        x.writeTruce(1, 1);
        x.pass(1);
        x.writeTruce(1, 1);
        due("a day ahead", x.crossed(0, 2), 1);
        due("the other way round", x.crossed(2, 0), 1);
        due("on that day", x.crossed(0, 3), 0);
        due("the other way round", x.crossed(3, 0), 0);
        due("of one player", x.crossed(0, 1), 0);
        due("of one player", x.crossed(2, 3), 0);
        x.writeTruce(0, 1);
        due("will", x.crossed(4, 3), 1);
        due("will", x.crossed(4, 2), 1);
        x.callBack(4);
        due("called back", x.crossed(4, 3), 0);
        due("called back", x.crossed(3, 4), 0);
        due("same", x.crossed(1, 1), BAD_VALUE);
        due("letter 5", x.crossed(5, 1), UNKNOWN);
        due("other 5", x.crossed(1, 5), UNKNOWN);
        due("unknown ahead of same", x.crossed(5, 5), UNKNOWN);
        for (int far : FAR_OFF) {
            due("letter", x.crossed(far, 1), UNKNOWN);
            due("other", x.crossed(1, far), UNKNOWN);
        }
    }

    private static void promise20() {
        FenceDuel x = new FenceDuel();
        x.set(0, 1);
        performText(x, "0f9e;1f9s;0f9n;1f1s;.1");
        due("fence on nothing", x.reasonEdge(false, 9, 3), 0);
        due("fence on a fence", x.reasonEdge(false, 10, 3), 1);
        due("fence on a hedge", x.reasonEdge(false, 9, 0), 1);
        due("gap on nothing", x.reasonEdge(true, 9, 3), 2);
        due("gap on a hedge", x.reasonEdge(true, 1, 2), 2);
        due("gap on a fence", x.reasonEdge(true, 9, 1), 0);
        due("gap on a fence", x.reasonEdge(true, 17, 0), 0);
        performText(x, "0t5;1t2;.1");
        due("truce", x.reasonEdge(true, 9, 1), 3);
        due("nothing ahead of truce", x.reasonEdge(true, 9, 3), 2);
        due("hedge ahead of truce", x.reasonEdge(true, 9, 0), 2);
        due("a fence may be built", x.reasonEdge(false, 9, 3), 0);
        x.pass(1);
        due("truce", x.reasonEdge(true, 9, 1), 3);
        x.pass(1);
        due("the day of the lower end", x.reasonEdge(true, 9, 1), 0);
        due("rim", x.reasonEdge(true, 0, 0), UNKNOWN);
        due("rim", x.reasonEdge(false, 47, 1), UNKNOWN);
        due("field 48", x.reasonEdge(false, 48, 0), UNKNOWN);
        due("side 4", x.reasonEdge(false, 9, 4), UNKNOWN);
        for (int far : FAR_OFF) {
            due("field", x.reasonEdge(true, far, 0), UNKNOWN);
            due("side", x.reasonEdge(false, 9, far), UNKNOWN);
        }
    }

    private static void promise21() {
        FenceDuel x = withCornerShut();
        due("would be done", x.reasonClaim(0), 0);
        due("too large", x.reasonClaim(1), 5);
        x.set(1, 46);
        due("too large by one", x.reasonClaim(1), 5);
        x.set(1, 47);
        due("just so large", x.reasonClaim(1), 0);
        x.writeClaim(1, 0);
        x.pass(3);
        due("taken", x.reasonClaim(0), 4);
        x.writeEdge(0, true, 0, 1);
        x.pass(3);
        due("taken ahead of too large", x.reasonClaim(0), 4);
        due("taken fields count", x.reasonClaim(1), 5);
        due("field 48", x.reasonClaim(48), UNKNOWN);
        for (int far : FAR_OFF) {
            due("field", x.reasonClaim(far), UNKNOWN);
        }
    }

    private static void promise22() {
        FenceDuel x = new FenceDuel();
        due("none", x.next(0), NONE);
        due("none", x.next(1), NONE);
        x.set(0, 9);
        x.writeTruce(0, 1);
        x.set(0, 4);
        x.writeTruce(0, 1);
        x.writeTruce(1, 1);
        due("the soonest", x.next(0), 1);
        due("in days", x.next(1), 4);
        x.callBack(1);
        due("the lowest left", x.next(0), 2);
        x.pass(5);
        due("then", x.next(0), 0);
        due("in days", x.next(1), 4);
        x.pass(4);
        due("none", x.next(0), NONE);
        due("what 2", x.next(2), BAD_VALUE);
        for (int far : FAR_OFF) {
            due("bad value ahead of none", x.next(far), BAD_VALUE);
        }
    }

    private static void promise23() {
        FenceDuel x = withCornerShut();
        x.writeClaim(1, 0);
        x.writeEdge(0, false, 9, 1);
        x.writeEdge(1, false, 9, 1);
        x.pass(1);
        x.writeEdge(0, false, 9, 1);
        due("fields of 0", x.ifAllCome(0), 0);
        due("fields of 1", x.ifAllCome(1), 1);
        due("refused", x.ifAllCome(3), 2);
        due("hedges", x.ifAllCome(2), 0);
        x.callBack(2);
        due("hedges, as both fences are one turn then", x.ifAllCome(2), 1);
        due("nothing has come", x.count(2), 3);
        due("day", x.count(0), 4);
        due("owner", x.field(0, 0), NONE);
        due("no act", x.count(18), 4);
        x.pass(9);
        due("as it was told", x.count(11), 1);
        due("refused so far", x.ifAllCome(3), 1);
        due("what 4", x.ifAllCome(4), BAD_VALUE);
        for (int far : FAR_OFF) {
            due("what", x.ifAllCome(far), BAD_VALUE);
        }
        FenceDuel late = onDay(9999);
        late.set(0, 9);
        late.writeEdge(0, false, 9, 1);
        late.writeEdge(1, false, 9, 1);
        due("beyond the last day", late.ifAllCome(2), 1);
        truceHoldsOnTheDayOfTheGap();
    }

    private static void truceHoldsOnTheDayOfTheGap() {
        FenceDuel x = new FenceDuel();
        performText(x, "0f9e;0t9;1t1;.1;1g9e");
        due("no truce any more when the gap comes", x.ifAllCome(3), 0);
        FenceDuel y = new FenceDuel();
        performText(y, "0f9e;0t9;1t2;.1;1g9e");
        due("a truce still when the gap comes", y.ifAllCome(3), 1);
        due("no truce yet", y.count(13), 0);
    }

    private static void promise24() {
        FenceDuel x = new FenceDuel();
        due("too large", x.bestClaim(0), NONE);
        due("too large", x.bestClaim(1), NONE);
        x.set(0, 1);
        performText(x, "0f47n;0f47w;0f0e;0f0s;.1");
        due("the lowest of several", x.bestClaim(0), 0);
        due("takes", x.bestClaim(1), 1);
        performText(x, "0f39n;0f39w;1g47n;.1");
        due("the most", x.bestClaim(0), 39);
        due("takes", x.bestClaim(1), 2);
        performText(x, "0f39s;.1");
        due("back to one", x.bestClaim(1), 1);
        performText(x, "1c39;.1;1g39s;.1");
        due("the owned one is not counted", x.bestClaim(0), 0);
        performText(x, "1c0;.1");
        due("a field whose neighbour is owned", x.bestClaim(0), 47);
        due("takes", x.bestClaim(1), 1);
        x.set(1, 48);
        due("now", x.bestClaim(0), 1);
        due("takes", x.bestClaim(1), 45);
        x.set(1, 1);
        due("none", x.bestClaim(1), NONE);
        due("what 2", x.bestClaim(2), BAD_VALUE);
        for (int far : FAR_OFF) {
            due("bad value ahead of none", x.bestClaim(far), BAD_VALUE);
        }
    }

    private static void promise25() {
        FenceDuel x = new FenceDuel();
        x.set(0, 2);
        x.set(1, 5);
        performText(x, "0f9e;1f9e;0f0e;0f0s;1f47n;1f47w;.2");
        performText(x, "0c0;1c47;1c46;0t9;1t5;.1;0t1;1t1;.1;0f20e");
        x.callBack(13);
        int[] counts = {4, 14, 2, 10, 1, 7, 4, 1, 1, 2, 2, 1, 3, 1, 13, 9, 2, 5, 4, 41};
        for (int what = 0; what < counts.length; what++) {
            due("count(" + what + ")", x.count(what), counts[what]);
        }
        due("what 20", x.count(20), BAD_VALUE);
        for (int far : FAR_OFF) {
            due("what", x.count(far), BAD_VALUE);
        }
    }

    // The calls that README.md shows, with the answers that it tells.
    private static void examplesOfReadme() {
        FenceDuel duel = new FenceDuel();
        due("writeEdge", duel.writeEdge(0, false, 0, 1), 0);
        due("writeEdge", duel.writeEdge(1, false, 1, 3), 1);
        due("ifAllCome", duel.ifAllCome(2), 1);
        due("pass", duel.pass(3), 2);
        due("edge", duel.edge(0, 1), 3);
        due("undo", duel.undo(), 2);
        due("perform", performText(duel, "0f9e;1g9e;0c9;1t5;.3"), 5);
    }

    public static void main(String[] args) {
        promise1();
        examplesOfReadme();
        promise2();
        promise3();
        promise4();
        promise5();
        promise6();
        promise7();
        promise8();
        promise9();
        promise10();
        promise11();
        promise12();
        promise13();
        promise14();
        promise15();
        promise16();
        promise17();
        promise18();
        promise19();
        promise20();
        promise21();
        promise22();
        promise23();
        promise24();
        promise25();
        System.out.println(asked + " answers, " + wrong + " of them not as due");
        if (wrong != 0) {
            System.exit(1);
        }
    }
}

import java.lang.reflect.Method;
import java.lang.reflect.Modifier;
import java.util.Map;
import java.util.TreeMap;

// Each sentence of the promises 1 to 25 that names a boundary case has a test of its own here: too small, too
// large, empty, full, a refused call. Every test is a method without parameters, named by its promise; main
// finds them all, so that none can be forgotten.
public final class BoundariesTest {
    private static final int UNKNOWN = FenceDuel.UNKNOWN;
    private static final int BAD_VALUE = FenceDuel.BAD_VALUE;
    private static final int FULL = FenceDuel.FULL;
    private static final int NOT_POSSIBLE = FenceDuel.NOT_POSSIBLE;
    private static final int NONE = FenceDuel.NONE;
    private static final int MIN = Integer.MIN_VALUE;
    private static final int MAX = Integer.MAX_VALUE;

    private static final int[] NO_PLAYERS = {MIN, -1, 2, MAX};
    private static final int[] NO_FIELDS = {MIN, -8, -1, 48, 49, MAX};
    private static final int[] NO_SIDES = {MIN, -1, 4, MAX};
    private static final String SHUT_CORNER = "0f0e;0f0s;.1";

    private static String test = "";
    private static int answers = 0;
    private static int wrong = 0;

    private static void due(String what, int got, int want) {
        answers++;
        if (got != want) {
            wrong++;
            System.out.println(test + ": " + what + ": answered " + got + ", due is " + want);
        }
    }

    private static int game(FenceDuel x, String text) {
        x.clearText();
        for (int i = 0; i < text.length(); i++) {
            x.type(text.charAt(i));
        }
        return x.perform();
    }

    // Letters need one day, so that games are short.
    private static FenceDuel swift(String... games) {
        FenceDuel x = new FenceDuel();
        x.set(0, 1);
        for (String text : games) {
            due("things of " + text, game(x, text), text.split(";").length);
        }
        return x;
    }

    private static FenceDuel withLetters(int number) {
        FenceDuel x = new FenceDuel();
        for (int letter = 0; letter < number; letter++) {
            due("letter " + letter, x.writeTruce(letter % 2, 1), letter);
        }
        return x;
    }

    private static FenceDuel onDay(int day) {
        FenceDuel x = new FenceDuel();
        while (x.count(0) < day) {
            x.pass(Math.min(99, day - x.count(0)));
        }
        due("day", x.count(0), day);
        return x;
    }

    // Nothing was written, and no act was recorded.
    private static void untouched(FenceDuel x) {
        due("letters", x.count(1), 0);
        due("states", x.count(18), 0);
        due("day", x.count(0), 0);
    }

    // ---- promise 1: "Creates an open ground, on the day 0."

    private static void p01OpenGroundOnDay0() {
        FenceDuel x = new FenceDuel();
        int[] counts = {0, 0, 0, 0, 0, 0, 0, 0, 0, 0, 0, 0, 1, 0, 0, 0, 3, 9, 0, 0};
        for (int what = 0; what < counts.length; what++) {
            due("count(" + what + ")", x.count(what), counts[what]);
        }
        due("no snapshot", x.restore(), NONE);
        due("no history", x.undo(), NONE);
        due("no letter", x.letter(0, 0), UNKNOWN);
    }

    private static void p01ObjectsHaveNothingInCommon() {
        FenceDuel x = swift(SHUT_CORNER, "0c0;.1");
        x.keep();
        FenceDuel y = new FenceDuel();
        due("day", y.count(0), 0);
        due("edge", y.edge(0, 1), 0);
        due("owner", y.field(0, 0), NONE);
        due("snapshot", y.restore(), NONE);
        due("text", y.count(19), 0);
        due("the other one's", x.field(0, 0), 0);
    }

    // ---- promise 2

    // "player: 0 or 1"
    private static void p02Players() {
        FenceDuel x = new FenceDuel();
        for (int player : NO_PLAYERS) {
            due("fence of " + player, x.writeEdge(player, false, 9, 1), UNKNOWN);
            due("gap of " + player, x.writeEdge(player, true, 9, 1), UNKNOWN);
        }
        untouched(x);
        due("player 0", x.writeEdge(0, false, 9, 1), 0);
        due("player 1", x.writeEdge(1, false, 9, 1), 1);
        due("its player", x.letter(0, 0), 0);
        due("its player", x.letter(1, 0), 1);
    }

    // "field: 0 to 47"
    private static void p02Fields() {
        FenceDuel x = new FenceDuel();
        for (int field : NO_FIELDS) {
            for (int side = 0; side < 4; side++) {
                due("field " + field, x.writeEdge(0, false, field, side), UNKNOWN);
            }
        }
        untouched(x);
        due("field 0", x.writeEdge(0, false, 0, 1), 0);
        due("field 47", x.writeEdge(0, false, 47, 0), 1);
        due("its field", x.letter(1, 2), 47);
    }

    // "or no edge is there: .. no such side"
    private static void p02Sides() {
        FenceDuel x = new FenceDuel();
        for (int side : NO_SIDES) {
            for (int field = 0; field < 48; field++) {
                due("side " + side + " of " + field, x.writeEdge(1, true, field, side), UNKNOWN);
            }
        }
        untouched(x);
        for (int side = 0; side < 4; side++) {
            due("side " + side, x.writeEdge(1, true, 9, side), side);
            due("its side", x.letter(side, 3), side);
        }
    }

    // "or no edge is there: the rim"
    private static void p02Rim() {
        FenceDuel x = new FenceDuel();
        for (int column = 0; column < 8; column++) {
            due("north of " + column, x.writeEdge(0, false, column, 0), UNKNOWN);
            due("south of " + (40 + column), x.writeEdge(1, true, 40 + column, 2), UNKNOWN);
        }
        for (int row = 0; row < 6; row++) {
            due("east of " + (row * 8 + 7), x.writeEdge(0, false, row * 8 + 7, 1), UNKNOWN);
            due("west of " + row * 8, x.writeEdge(1, true, row * 8, 3), UNKNOWN);
        }
        untouched(x);
    }

    // "FULL if 60 were written"
    private static void p02Full() {
        FenceDuel x = withLetters(59);
        due("the 60th", x.writeEdge(0, false, 9, 1), 59);
        due("one more", x.writeEdge(0, false, 9, 1), FULL);
        due("one more", x.writeEdge(1, true, 9, 1), FULL);
        due("unknown ahead of full", x.writeEdge(2, true, 9, 1), UNKNOWN);
        due("unknown ahead of full", x.writeEdge(0, true, 48, 1), UNKNOWN);
        due("unknown ahead of full", x.writeEdge(0, true, 7, 1), UNKNOWN);
        due("letters", x.count(1), 60);
    }

    // A letter that would be refused now may be written: only when it comes it is looked at.
    private static void p02WhatWouldBeRefusedIsWritten() {
        FenceDuel x = new FenceDuel();
        due("a gap where nothing is", x.writeEdge(0, true, 9, 1), 0);
        due("two fences at one edge", x.writeEdge(0, false, 9, 1), 1);
        due("two fences at one edge", x.writeEdge(0, false, 9, 1), 2);
        due("none is refused yet", x.count(4), 0);
    }

    // ---- promise 3

    // "player: 0 or 1"
    private static void p03Players() {
        FenceDuel x = new FenceDuel();
        for (int player : NO_PLAYERS) {
            due("player " + player, x.writeClaim(player, 9), UNKNOWN);
        }
        untouched(x);
        due("player 0", x.writeClaim(0, 9), 0);
        due("player 1", x.writeClaim(1, 9), 1);
        due("its player", x.letter(1, 0), 1);
    }

    // "field: 0 to 47"
    private static void p03Fields() {
        FenceDuel x = new FenceDuel();
        for (int field : NO_FIELDS) {
            due("field " + field, x.writeClaim(0, field), UNKNOWN);
        }
        untouched(x);
        due("field 0", x.writeClaim(0, 0), 0);
        due("field 47", x.writeClaim(0, 47), 1);
        due("its field", x.letter(1, 2), 47);
    }

    // "FULL if 60 were written"
    private static void p03Full() {
        FenceDuel x = withLetters(59);
        due("the 60th", x.writeClaim(1, 9), 59);
        due("one more", x.writeClaim(1, 9), FULL);
        due("unknown ahead of full", x.writeClaim(-1, 9), UNKNOWN);
        due("unknown ahead of full", x.writeClaim(1, -1), UNKNOWN);
        due("letters", x.count(1), 60);
    }

    // ---- promise 4

    // "player: 0 or 1"
    private static void p04Players() {
        FenceDuel x = new FenceDuel();
        for (int player : NO_PLAYERS) {
            due("player " + player, x.writeTruce(player, 1), UNKNOWN);
            due("ahead of bad value", x.writeTruce(player, 0), UNKNOWN);
        }
        untouched(x);
        due("player 0", x.writeTruce(0, 1), 0);
        due("player 1", x.writeTruce(1, 1), 1);
    }

    // "days: 1 to 99"
    private static void p04Days() {
        FenceDuel x = new FenceDuel();
        for (int days : new int[] {MIN, -1, 0, 100, MAX}) {
            due("days " + days, x.writeTruce(0, days), BAD_VALUE);
        }
        untouched(x);
        due("one day", x.writeTruce(0, 1), 0);
        due("99 days", x.writeTruce(0, 99), 1);
        due("its days", x.letter(1, 3), 99);
    }

    // "FULL if 60 were written"
    private static void p04Full() {
        FenceDuel x = withLetters(59);
        due("the 60th", x.writeTruce(0, 1), 59);
        due("one more", x.writeTruce(0, 1), FULL);
        due("unknown ahead of full", x.writeTruce(2, 1), UNKNOWN);
        due("bad value ahead of full", x.writeTruce(0, 100), BAD_VALUE);
        due("bad value ahead of full", x.writeTruce(0, 0), BAD_VALUE);
        due("letters", x.count(1), 60);
    }

    // ---- promise 5

    // "Returns in how many days it would have come"
    private static void p05DaysLeft() {
        FenceDuel x = new FenceDuel();
        x.set(0, 9);
        x.writeTruce(0, 1);
        x.writeTruce(0, 1);
        due("on the day of writing", x.callBack(0), 9);
        x.pass(8);
        due("on the eve", x.callBack(1), 1);
        due("none comes", x.pass(1), 0);
    }

    // "letter: a letter": UNKNOWN
    private static void p05Letters() {
        FenceDuel x = new FenceDuel();
        due("no letter yet", x.callBack(0), UNKNOWN);
        x.writeTruce(0, 1);
        for (int letter : new int[] {MIN, -1, 1, 59, 60, MAX}) {
            due("letter " + letter, x.callBack(letter), UNKNOWN);
        }
        due("still on its way", x.letter(0, 6), 0);
        due("the last letter of all", withLetters(60).callBack(59), 3);
    }

    // "NOT_POSSIBLE if it has come"
    private static void p05HasCome() {
        FenceDuel x = swift("0f9e;0f9e;.1");
        due("done", x.callBack(0), NOT_POSSIBLE);
        due("refused", x.callBack(1), NOT_POSSIBLE);
        due("how it is", x.letter(0, 6), 1);
        due("how it is", x.letter(1, 6), 2);
        due("states", x.count(18), 2);
    }

    // "or was called back"
    private static void p05WasCalledBack() {
        FenceDuel x = new FenceDuel();
        x.writeTruce(0, 1);
        x.callBack(0);
        due("again", x.callBack(0), NOT_POSSIBLE);
        x.pass(99);
        due("later", x.callBack(0), NOT_POSSIBLE);
        x.undo();
        x.undo();
        due("undone", x.callBack(0), 3);
    }

    // "it never comes"
    private static void p05NeverComes() {
        FenceDuel x = new FenceDuel();
        x.writeEdge(0, false, 9, 1);
        x.writeEdge(1, false, 9, 1);
        x.callBack(0);
        due("the other one alone", x.pass(99), 1);
        due("called back", x.letter(0, 6), 3);
        due("no turn", x.letter(0, 8), NONE);
        due("no reason", x.letter(0, 7), 0);
        due("no letter with it", x.letter(0, 9), NONE);
        due("a fence of 1", x.edge(9, 1), 2);
        due("letters so far", x.count(1), 2);
        due("done", x.count(3), 1);
        due("refused", x.count(4), 0);
        due("turns", x.count(5), 1);
    }

    // ---- promise 6

    // "days: 1 to 99"
    private static void p06Days() {
        FenceDuel x = new FenceDuel();
        for (int days : new int[] {MIN, -1, 0, 100, MAX}) {
            due("days " + days, x.pass(days), BAD_VALUE);
        }
        untouched(x);
        due("one day", x.pass(1), 0);
        due("day", x.count(0), 1);
        due("99 days", x.pass(99), 0);
        due("day", x.count(0), 100);
    }

    // "FULL if the day would be beyond 9999"
    private static void p06LastDay() {
        FenceDuel x = onDay(9950);
        x.keep();
        due("beyond by one", x.pass(50), FULL);
        due("beyond", x.pass(99), FULL);
        due("bad value ahead of full", x.pass(100), BAD_VALUE);
        due("bad value ahead of full", x.pass(MAX), BAD_VALUE);
        due("day", x.count(0), 9950);
        due("just so far", x.pass(49), 0);
        due("day", x.count(0), 9999);
        due("one more", x.pass(1), FULL);
        due("no value", x.pass(0), BAD_VALUE);
        due("back", x.restore(), 9950);
        due("there is room again", x.pass(1), 0);
    }

    // The same: letters of the last day come on it, later ones never.
    private static void p06LettersOfTheLastDay() {
        FenceDuel x = onDay(9997);
        x.set(0, 2);
        x.writeTruce(0, 99);
        x.set(0, 3);
        x.writeTruce(1, 99);
        due("the last day", x.pass(2), 1);
        due("has come", x.letter(0, 6), 1);
        due("an end beyond the last day", x.count(14), 10098);
        due("never comes", x.pass(1), FULL);
        due("is on its way still", x.letter(1, 6), 0);
        due("in one day", x.next(1), 1);
        due("may be called back", x.callBack(1), 1);
    }

    // "Returns how many letters come in them"
    private static void p06HowManyCome() {
        due("none", new FenceDuel().pass(99), 0);
        FenceDuel x = withLetters(60);
        due("none yet", x.pass(2), 0);
        due("all", x.pass(1), 60);
        due("none any more", x.pass(99), 0);
        FenceDuel y = swift("0f9e;0f9e;0g20e");
        y.writeTruce(0, 1);
        y.callBack(3);
        due("refused ones count, those called back do not", y.pass(1), 3);
    }

    // "each time the next day begins": letters of all days in between come, each on its day.
    private static void p06EachDayBegins() {
        FenceDuel x = new FenceDuel();
        for (int way = 9; way >= 1; way--) {
            x.set(0, way);
            x.writeTruce(0, 1);
        }
        due("all nine", x.pass(9), 9);
        for (int letter = 0; letter < 9; letter++) {
            due("turn of letter " + letter, x.letter(letter, 8), 9 - letter);
        }
        due("the end that the last one named", x.count(14), 10);
    }

    // ---- promise 7

    // "which: 0 or 1"
    private static void p07Settings() {
        FenceDuel x = new FenceDuel();
        for (int which : new int[] {MIN, -1, 2, MAX}) {
            due("setting " + which, x.set(which, 1), UNKNOWN);
            due("ahead of bad value", x.set(which, 0), UNKNOWN);
        }
        untouched(x);
        due("setting 0", x.set(0, 4), 3);
        due("setting 1", x.set(1, 4), 9);
        due("setting 0", x.count(16), 4);
        due("setting 1", x.count(17), 4);
    }

    // "value: in its range": 1 to 9
    private static void p07RangeOfTheWay() {
        FenceDuel x = new FenceDuel();
        for (int value : new int[] {MIN, -1, 0, 10, 48, MAX}) {
            due("value " + value, x.set(0, value), BAD_VALUE);
        }
        untouched(x);
        due("least", x.set(0, 1), 3);
        due("greatest", x.set(0, 9), 1);
        due("setting", x.count(16), 9);
        due("the other setting", x.count(17), 9);
    }

    // The same: 1 to 48
    private static void p07RangeOfTheLargestClaim() {
        FenceDuel x = new FenceDuel();
        for (int value : new int[] {MIN, -1, 0, 49, MAX}) {
            due("value " + value, x.set(1, value), BAD_VALUE);
        }
        untouched(x);
        due("least", x.set(1, 1), 9);
        due("greatest", x.set(1, 48), 1);
        due("setting", x.count(17), 48);
        due("the other setting", x.count(16), 3);
    }

    // "NONE if it is so already"
    private static void p07SoAlready() {
        FenceDuel x = new FenceDuel();
        due("so at first", x.set(0, 3), NONE);
        due("so at first", x.set(1, 9), NONE);
        untouched(x);
        x.set(0, 9);
        due("so now", x.set(0, 9), NONE);
        due("states", x.count(18), 1);
        due("back", x.set(0, 3), 9);
    }

    // "letters that are on their way come as they would"
    private static void p07LettersOnTheirWay() {
        FenceDuel x = new FenceDuel();
        x.writeTruce(0, 1);
        x.set(0, 1);
        due("comes on", x.letter(0, 5), 3);
        due("not ahead of it", x.pass(1), 0);
        x.set(0, 9);
        due("on its day", x.pass(2), 1);
        x.writeTruce(0, 1);
        due("the next one has the new way", x.letter(1, 5), 12);
    }

    // The same: when they come, a claim is held against the setting 1 as it is then.
    private static void p07ClaimsOnTheirWay() {
        FenceDuel x = swift("0f1e;0f1s;0f0s;.1", "0c0");
        x.set(1, 1);
        x.pass(1);
        due("two fields are too many now", x.letter(3, 7), 5);
        game(x, "0c0");
        x.set(1, 2);
        x.pass(1);
        due("two fields are not too many now", x.letter(4, 7), 0);
    }

    // ---- promise 8

    // "FULL if it has 60 characters"
    private static void p08Full() {
        FenceDuel x = new FenceDuel();
        for (int length = 1; length <= 60; length++) {
            due("type", x.type('1'), length);
        }
        due("one more", x.type('1'), FULL);
        due("length", x.count(19), 60);
        x.clearText();
        due("room again", x.type('1'), 1);
    }

    // The same: what had no room is not in the text.
    private static void p08WhatHadNoRoom() {
        FenceDuel x = new FenceDuel();
        due("things", game(x, ".1;".repeat(19) + ".22"), 20);
        due("one more", x.type(';'), FULL);
        due("no fault", x.perform(), 20);
        due("day", x.count(0), 82);
    }

    // "character: any character"
    private static void p08AnyCharacter() {
        FenceDuel x = new FenceDuel();
        char[] all = {0, '\n', ' ', 127, 128, 255, 256, 0x7FFF, 0x8000, 0xD800, 0xFFFF};
        for (int i = 0; i < all.length; i++) {
            due("type", x.type(all[i]), i + 1);
        }
        due("fault", x.perform(), -100);
        due("length", x.clearText(), all.length);
    }

    // ---- promise 9

    // "Returns the length that it had."
    private static void p09Length() {
        FenceDuel x = new FenceDuel();
        due("empty", x.clearText(), 0);
        x.type('.');
        due("one", x.clearText(), 1);
        due("empty", x.clearText(), 0);
        for (int i = 0; i < 61; i++) {
            x.type('.');
        }
        due("full", x.clearText(), 60);
        due("length", x.count(19), 0);
        untouched(x);
    }

    // "Empties the text.": nothing of it is left behind a shorter one.
    private static void p09NothingIsLeft() {
        FenceDuel x = new FenceDuel();
        game(x, "0c1;1c2;.9");
        x.clearText();
        due("empty", x.perform(), -100);
        x.type('0');
        due("ends too early", x.perform(), -101);
        x.type('c');
        due("ends too early", x.perform(), -102);
        x.type('5');
        due("one thing", x.perform(), 1);
        due("its field", x.letter(2, 2), 5);
    }

    // ---- promise 10

    // "Returns how many things the game has"
    private static void p10HowManyThings() {
        due("one", game(new FenceDuel(), ".1"), 1);
        due("two", game(new FenceDuel(), ".1;.1"), 2);
        due("as many as there can be", game(new FenceDuel(), ".1;".repeat(19) + ".1"), 20);
        due("as many letters as there can be", game(new FenceDuel(), "0c1;".repeat(14) + "0c1"), 15);
    }

    // "-100 minus the fault of the text if it has one": the least and the greatest.
    private static void p10Faults() {
        due("the empty text", new FenceDuel().perform(), -100);
        due("at the start", game(new FenceDuel(), "?"), -100);
        due("at the last character", game(new FenceDuel(), ".1;".repeat(19) + ".1?"), -159);
        due("behind a full text", game(new FenceDuel(), ".1;".repeat(20)), -160);
    }

    // "(which is an error)": nothing is done of what stands ahead of the fault.
    private static void p10AFaultIsAnError() {
        FenceDuel x = new FenceDuel();
        due("fault", game(x, "0c1;.9;1c"), -109);
        untouched(x);
        due("no stop", x.stopped(0), NONE);
        due("no stop", x.stopped(1), NONE);
        due("the text stays", x.count(19), 9);
    }

    // "NOT_POSSIBLE if any is stopped" .. "all of it, or nothing": at the rim
    private static void p10StoppedAtTheRim() {
        String[] rims = {"0f0n", "1g0w", "0f7e", "1g7n", "0f40s", "1g40w", "0f47e", "1g47s"};
        for (String rim : rims) {
            FenceDuel x = new FenceDuel();
            due("first", game(x, rim), NOT_POSSIBLE);
            due("number", x.stopped(0), 0);
            due("last", game(x, "0c1;.5;" + rim), NOT_POSSIBLE);
            due("number", x.stopped(0), 2);
            due("error", x.stopped(1), UNKNOWN);
            due("between", game(x, "0c1;" + rim + ";.5"), NOT_POSSIBLE);
            due("number", x.stopped(0), 1);
            untouched(x);
        }
    }

    // The same: no more room for a letter
    private static void p10StoppedForWantOfRoom() {
        FenceDuel x = withLetters(58);
        due("states", x.count(18), 4);
        due("one too much", game(x, "0c1;1t9;.1;0f9e"), NOT_POSSIBLE);
        due("number", x.stopped(0), 3);
        due("error", x.stopped(1), FULL);
        due("letters", x.count(1), 58);
        due("day", x.count(0), 0);
        due("just so many", game(x, "0c1;1t9;.1"), 3);
        due("letters", x.count(1), 60);
        due("none more", game(x, "0t1"), NOT_POSSIBLE);
        due("number", x.stopped(0), 0);
        due("days need no room", game(x, ".1"), 1);
    }

    // The same: no more days
    private static void p10StoppedOnTheLastDay() {
        FenceDuel x = onDay(9990);
        due("one too much", game(x, "0c1;.9;0c2;.1"), NOT_POSSIBLE);
        due("number", x.stopped(0), 3);
        due("error", x.stopped(1), FULL);
        due("day", x.count(0), 9990);
        due("letters", x.count(1), 0);
        due("just so many", game(x, "0c1;.8;0c2;.1"), 4);
        due("day", x.count(0), 9999);
    }

    // "all of it, or nothing": what has come in the game is taken back, too.
    private static void p10WhatCameIsTakenBack() {
        FenceDuel x = swift(SHUT_CORNER);
        x.writeClaim(0, 0);
        due("stopped", game(x, "0f9e;1f9e;0t9;1t9;.1;1c0;.5;1g0w"), NOT_POSSIBLE);
        due("number", x.stopped(0), 7);
        due("owner", x.field(0, 0), NONE);
        due("edge", x.edge(9, 1), 0);
        due("end", x.count(14), 0);
        due("turns", x.count(5), 2);
        due("on their way", x.count(2), 1);
        due("states", x.count(18), 3);
        due("the latest act is undone", x.undo(), 2);
        due("letters", x.count(1), 2);
    }

    // "the game of the text, which stays"
    private static void p10TheTextStays() {
        FenceDuel x = new FenceDuel();
        due("first", game(x, "0c1;.1"), 2);
        due("length", x.count(19), 6);
        due("again", x.perform(), 2);
        due("letters", x.count(1), 2);
        x.type(';');
        due("a fault", x.perform(), -107);
        due("length", x.count(19), 7);
    }

    // "This is one act."
    private static void p10OneAct() {
        FenceDuel x = new FenceDuel();
        game(x, "0c1;.1;.1;.1;.1;.1;0c2;.9");
        due("states", x.count(18), 1);
        due("undo", x.undo(), 0);
        untouched(x);
    }

    // ---- promise 11

    // "what: 0 .. 1"
    private static void p11What() {
        FenceDuel x = new FenceDuel();
        for (int what : new int[] {MIN, -1, 2, MAX}) {
            due("bad value ahead of none, " + what, x.stopped(what), BAD_VALUE);
        }
        game(x, "0f0n");
        for (int what : new int[] {MIN, -1, 2, MAX}) {
            due("what " + what, x.stopped(what), BAD_VALUE);
        }
    }

    // "NONE if nothing was stopped yet": neither a good game nor a fault is a stop.
    private static void p11NothingYet() {
        FenceDuel x = new FenceDuel();
        due("number", x.stopped(0), NONE);
        due("error", x.stopped(1), NONE);
        game(x, ".1");
        game(x, "x");
        x.writeEdge(0, false, 0, 0);
        due("number", x.stopped(0), NONE);
        due("error", x.stopped(1), NONE);
    }

    // "its number in the game, from 0"
    private static void p11Numbers() {
        FenceDuel x = new FenceDuel();
        game(x, "0f0n;0f0n");
        due("the first", x.stopped(0), 0);
        game(x, ".1;".repeat(18) + "0f0n");
        due("the last", x.stopped(0), 18);
        due("error", x.stopped(1), UNKNOWN);
    }

    // "the latest stop": it stays, whatever comes, up to the next one.
    private static void p11TheLatestStop() {
        FenceDuel x = withLetters(60);
        game(x, ".1;0c1");
        due("number", x.stopped(0), 1);
        due("error", x.stopped(1), FULL);
        game(x, ".1");
        game(x, "");
        x.undo();
        x.keep();
        x.restore();
        x.clearText();
        due("number", x.stopped(0), 1);
        due("error", x.stopped(1), FULL);
        game(x, ".1;.1;.1;0f0n");
        due("number", x.stopped(0), 3);
        due("error", x.stopped(1), UNKNOWN);
    }

    // ---- promise 12

    // "NONE if the history is empty"
    private static void p12Empty() {
        FenceDuel x = new FenceDuel();
        due("at first", x.undo(), NONE);
        x.pass(1);
        due("one", x.undo(), 0);
        due("empty again", x.undo(), NONE);
        due("again", x.undo(), NONE);
        untouched(x);
        x.pass(2);
        due("one", x.undo(), 0);
        due("day", x.count(0), 0);
    }

    // "Returns the number of states that are left"
    private static void p12StatesLeft() {
        FenceDuel x = new FenceDuel();
        for (int day = 0; day < 20; day++) {
            x.pass(1);
        }
        for (int left = 3; left >= 0; left--) {
            due("undo", x.undo(), left);
            due("day", x.count(0), 16 + left);
            due("states", x.count(18), left);
        }
        due("none left", x.undo(), NONE);
        due("day", x.count(0), 16);
    }

    // "Removes": what was undone cannot be undone again, and makes room.
    private static void p12Removes() {
        FenceDuel x = new FenceDuel();
        for (int day = 0; day < 4; day++) {
            x.pass(1);
        }
        x.undo();
        x.undo();
        x.pass(9);
        due("states", x.count(18), 3);
        due("undo", x.undo(), 2);
        due("day", x.count(0), 2);
        due("undo", x.undo(), 1);
        due("day", x.count(0), 1);
    }

    // undo() is no act: it records nothing.
    private static void p12NoAct() {
        FenceDuel x = new FenceDuel();
        x.pass(1);
        x.pass(1);
        x.undo();
        due("states", x.count(18), 1);
        x.undo();
        due("states", x.count(18), 0);
    }

    // ---- promise 13

    // "in place of the one that was"
    private static void p13InPlace() {
        FenceDuel x = new FenceDuel();
        due("day 0", x.keep(), 0);
        x.pass(5);
        due("day 5", x.keep(), 5);
        x.undo();
        due("the one that was is gone", x.restore(), 5);
        due("day", x.count(0), 5);
    }

    // "Returns the day."
    private static void p13Day() {
        due("first day", new FenceDuel().keep(), 0);
        due("last day", onDay(9999).keep(), 9999);
    }

    // keep() is no act.
    private static void p13NoAct() {
        FenceDuel x = new FenceDuel();
        x.keep();
        untouched(x);
        due("nothing to undo", x.undo(), NONE);
        due("the snapshot is taken", x.restore(), 0);
    }

    // ---- promise 14

    // "NONE if there is no snapshot"
    private static void p14NoSnapshot() {
        FenceDuel x = new FenceDuel();
        due("at first", x.restore(), NONE);
        x.pass(1);
        due("still", x.restore(), NONE);
        due("day", x.count(0), 1);
        due("states", x.count(18), 1);
    }

    // "which stays": neither restore(), nor undo(), nor what is done then changes it.
    private static void p14Stays() {
        FenceDuel x = swift(SHUT_CORNER);
        x.keep();
        for (int round = 0; round < 3; round++) {
            game(x, "0c0;0g0e;.9");
            due("owner", x.field(0, 0), 0);
            due("restore", x.restore(), 1);
            due("owner", x.field(0, 0), NONE);
            due("edge", x.edge(0, 1), 1);
            due("letters", x.count(1), 2);
        }
        x.undo();
        x.undo();
        due("restore", x.restore(), 1);
        due("letters", x.count(1), 2);
    }

    // "This is an act.": also if nothing differs.
    private static void p14IsAnAct() {
        FenceDuel x = new FenceDuel();
        x.keep();
        due("restore", x.restore(), 0);
        due("states", x.count(18), 1);
        x.pass(7);
        x.restore();
        due("undo", x.undo(), 2);
        due("the state ahead of restore()", x.count(0), 7);
    }

    // ---- promise 15

    // "UNKNOWN (field, or no edge is there)"
    private static void p15Unknown() {
        FenceDuel x = new FenceDuel();
        for (int field : NO_FIELDS) {
            for (int side = 0; side < 4; side++) {
                due("field " + field, x.edge(field, side), UNKNOWN);
            }
        }
        for (int side : NO_SIDES) {
            for (int field = 0; field < 48; field++) {
                due("side " + side + " of " + field, x.edge(field, side), UNKNOWN);
            }
            due("neither", x.edge(48, side), UNKNOWN);
        }
        due("corner", x.edge(0, 0), UNKNOWN);
        due("corner", x.edge(0, 3), UNKNOWN);
        due("corner", x.edge(47, 1), UNKNOWN);
        due("corner", x.edge(47, 2), UNKNOWN);
        due("first field", x.edge(0, 1), 0);
        due("last field", x.edge(47, 3), 0);
    }

    // "what the edge has: 0 nothing, 1 or 2 a fence of the player 0 or 1, 3 a hedge"
    private static void p15WhatItHas() {
        FenceDuel x = swift("0f0e;1f47w;.1", "0f7s;1f7s;.1");
        due("a fence of 0", x.edge(0, 1), 1);
        due("a fence of 1", x.edge(47, 3), 2);
        due("a hedge", x.edge(15, 0), 3);
        due("nothing", x.edge(0, 2), 0);
    }

    // ---- promise 16

    // "UNKNOWN; BAD_VALUE"
    private static void p16Refused() {
        FenceDuel x = new FenceDuel();
        for (int field : NO_FIELDS) {
            for (int what = 0; what < 5; what++) {
                due("field " + field, x.field(field, what), UNKNOWN);
            }
            due("unknown ahead of bad value", x.field(field, 5), UNKNOWN);
        }
        for (int what : new int[] {MIN, -1, 5, MAX}) {
            due("what " + what, x.field(0, what), BAD_VALUE);
            due("what " + what, x.field(47, what), BAD_VALUE);
        }
    }

    // "0 for the player to whom it belongs (NONE for nobody)"
    private static void p16Owner() {
        FenceDuel x = swift(SHUT_CORNER, "0f47n;0f47w;.1", "0c0;1c47;.1");
        due("player 0", x.field(0, 0), 0);
        due("player 1", x.field(47, 0), 1);
        due("nobody", x.field(1, 0), NONE);
    }

    // "1 for the fields of its region, 2 for those of them that belong to nobody": all, and none
    private static void p16RegionAndFree() {
        FenceDuel x = swift(SHUT_CORNER);
        due("the least region", x.field(0, 1), 1);
        due("all are free", x.field(0, 2), 1);
        game(x, "1c0;.1");
        due("the region stays", x.field(0, 1), 1);
        due("none is free", x.field(0, 2), 0);
        due("the other region", x.field(1, 2), 47);
        game(x, "1g0s;.1");
        due("the greatest region", x.field(0, 1), 48);
        due("all but one are free", x.field(0, 2), 47);
        due("asked from elsewhere", x.field(47, 2), 47);
    }

    // "3 for the lowest field of its region": it may lie in a lower row, but in a higher column.
    private static void p16Lowest() {
        FenceDuel x = swift("0f8n;0f9n;0f10n;0f11n;0f12n;0f13n;0f14n;.1");
        due("from below", x.field(40, 3), 0);
        due("from the last", x.field(47, 3), 0);
        game(x, "0f7w;.1");
        due("the lowest is 7", x.field(40, 3), 7);
        due("its own", x.field(7, 3), 7);
        due("the row above", x.field(6, 3), 0);
    }

    // "4 for its edges that have something (the rim not counted)": none, and all
    private static void p16EdgesWithSomething() {
        FenceDuel x = new FenceDuel();
        due("none", x.field(9, 4), 0);
        due("none at the rim", x.field(0, 4), 0);
        FenceDuel y = swift("0f9n;0f9e;1f9s;1f9w;.1", SHUT_CORNER, "0f3s;1f3s;.1");
        due("all four", y.field(9, 4), 4);
        due("all that a corner has", y.field(0, 4), 2);
        due("a hedge is something", y.field(3, 4), 1);
        due("from the other side", y.field(11, 4), 1);
    }

    // ---- promise 17

    // "UNKNOWN"
    private static void p17Unknown() {
        FenceDuel x = new FenceDuel();
        for (int field : NO_FIELDS) {
            due("field " + field, x.joined(field), UNKNOWN);
        }
        due("first field", x.joined(0), 48);
        due("last field", x.joined(47), 48);
    }

    // "Tells how many fields the region of a field has": the least, the greatest, any between
    private static void p17Sizes() {
        FenceDuel x = swift(SHUT_CORNER);
        due("the least", x.joined(0), 1);
        due("the rest", x.joined(1), 47);
        for (int column = 0; column < 7; column++) {
            FenceDuel y = new FenceDuel();
            for (int row = 0; row < 6; row++) {
                y.writeEdge(row % 2, false, row * 8 + column, 1);
            }
            y.pass(3);
            due("to the west", y.joined(40), 6 * (column + 1));
            due("to the east", y.joined(7), 6 * (7 - column));
            due("both ways agree", y.field(7, 1), y.joined(7));
        }
    }

    // ---- promise 18

    // "UNKNOWN; BAD_VALUE"
    private static void p18Refused() {
        FenceDuel x = new FenceDuel();
        due("no letter yet", x.letter(0, 0), UNKNOWN);
        x.writeTruce(1, 1);
        for (int letter : new int[] {MIN, -1, 1, 59, 60, MAX}) {
            due("letter " + letter, x.letter(letter, 0), UNKNOWN);
            due("unknown ahead of bad value", x.letter(letter, 10), UNKNOWN);
        }
        for (int what : new int[] {MIN, -1, 10, MAX}) {
            due("what " + what, x.letter(0, what), BAD_VALUE);
        }
        due("the first", x.letter(0, 0), 1);
        due("the last of all", withLetters(60).letter(59, 0), 1);
    }

    // "2 for its field (NONE for a truce), 3 for its side, or the days of a truce (NONE for a claim)"
    private static void p18FieldsAndSides() {
        FenceDuel x = new FenceDuel();
        game(x, "0f47n;1g0s;0c47;1c0;0t99;1t1");
        int[] fields = {47, 0, 47, 0, NONE, NONE};
        int[] sides = {0, 2, NONE, NONE, 99, 1};
        int[] kinds = {0, 1, 2, 2, 3, 3};
        for (int letter = 0; letter < 6; letter++) {
            due("player of " + letter, x.letter(letter, 0), letter % 2);
            due("kind of " + letter, x.letter(letter, 1), kinds[letter]);
            due("field of " + letter, x.letter(letter, 2), fields[letter]);
            due("side or days of " + letter, x.letter(letter, 3), sides[letter]);
        }
    }

    // "the day on which it was written, .. on which it comes, or came"
    private static void p18Days() {
        FenceDuel x = new FenceDuel();
        x.writeTruce(0, 1);
        x.pass(99);
        due("written", x.letter(0, 4), 0);
        due("came", x.letter(0, 5), 3);
        x.writeTruce(0, 1);
        due("written", x.letter(1, 4), 99);
        due("comes", x.letter(1, 5), 102);
        FenceDuel y = onDay(9999);
        y.writeTruce(0, 1);
        due("written", y.letter(0, 4), 9999);
        due("would come", y.letter(0, 5), 10002);
    }

    // "how it is: 0 on its way, 1 done, 2 refused, 3 called back"
    private static void p18How() {
        FenceDuel x = swift("0f9e;0f9e;.1", "0t1;0t1");
        x.callBack(3);
        int[] how = {1, 2, 0, 3};
        for (int letter = 0; letter < 4; letter++) {
            due("letter " + letter, x.letter(letter, 6), how[letter]);
        }
    }

    // "7 for the reason for which it was refused (0 if it was not)": each reason
    private static void p18Reasons() {
        FenceDuel x = swift(SHUT_CORNER, "0f0e;0g9n;1c1;.1", "0c0;1c0;.1", "0c0;.1", "1c0;0t9;1t9;0g0e;.1", "0t1");
        int[] reasons = {0, 0, 1, 2, 5, 0, 6, 0, 4, 0, 0, 3, 0};
        for (int letter = 0; letter < reasons.length; letter++) {
            due("letter " + letter, x.letter(letter, 7), reasons[letter]);
        }
        due("called back", x.callBack(12), 1);
        due("no reason", x.letter(12, 7), 0);
    }

    // "8 for its turn (NONE if it has not come), 9 for the letter that belongs to the same turn (NONE without one)"
    private static void p18TurnsAndMates() {
        FenceDuel x = new FenceDuel();
        x.writeTruce(0, 1);
        x.writeTruce(1, 1);
        x.writeTruce(1, 1);
        for (int letter = 0; letter < 3; letter++) {
            due("no turn yet", x.letter(letter, 8), NONE);
            due("alone yet", x.letter(letter, 9), NONE);
        }
        x.pass(3);
        int[] turns = {1, 1, 2};
        int[] mates = {1, 0, NONE};
        for (int letter = 0; letter < 3; letter++) {
            due("turn", x.letter(letter, 8), turns[letter]);
            due("the other one", x.letter(letter, 9), mates[letter]);
        }
        x.writeTruce(0, 1);
        x.callBack(3);
        x.pass(9);
        due("called back: no turn", x.letter(3, 8), NONE);
        due("called back: alone", x.letter(3, 9), NONE);
    }

    // ---- promise 19

    // "UNKNOWN (letter or other); BAD_VALUE if both are the same"
    private static void p19Refused() {
        FenceDuel x = new FenceDuel();
        due("no letter yet", x.crossed(0, 1), UNKNOWN);
        due("unknown ahead of the same", x.crossed(0, 0), UNKNOWN);
        x.writeTruce(0, 1);
        x.writeTruce(1, 1);
        for (int letter : new int[] {MIN, -1, 2, 60, MAX}) {
            due("letter " + letter, x.crossed(letter, 0), UNKNOWN);
            due("other " + letter, x.crossed(0, letter), UNKNOWN);
            due("both " + letter, x.crossed(letter, letter), UNKNOWN);
        }
        due("the same", x.crossed(0, 0), BAD_VALUE);
        due("the same", x.crossed(1, 1), BAD_VALUE);
        x.callBack(1);
        due("the same, called back", x.crossed(1, 1), BAD_VALUE);
    }

    // "or will, as they come": on their way, or one has come already
    private static void p19Will() {
        FenceDuel x = new FenceDuel();
        x.writeTruce(0, 1);
        x.writeTruce(1, 1);
        due("on one day", x.crossed(0, 1), 1);
        x.pass(2);
        x.writeTruce(1, 1);
        due("on the eve", x.crossed(0, 2), 1);
        x.pass(1);
        due("one has come", x.crossed(0, 2), 1);
        x.writeTruce(1, 1);
        due("on the day of its coming", x.crossed(0, 3), 0);
        x.pass(3);
        due("both have come", x.crossed(2, 0), 1);
        due("both have come", x.crossed(3, 0), 0);
    }

    // "(also for two of one player, or if either was called back)"
    private static void p19NotCrossed() {
        FenceDuel x = new FenceDuel();
        x.writeTruce(0, 1);
        x.writeTruce(0, 1);
        x.writeTruce(1, 1);
        due("of one player", x.crossed(0, 1), 0);
        x.callBack(0);
        due("the letter was called back", x.crossed(0, 2), 0);
        due("the other was called back", x.crossed(2, 0), 0);
        due("neither", x.crossed(1, 2), 1);
        x.callBack(2);
        due("both were called back", x.crossed(0, 2), 0);
        x.undo();
        due("undone", x.crossed(1, 2), 1);
    }

    // Two letters may have crossed without a turn in common.
    private static void p19WithoutATurnInCommon() {
        FenceDuel x = swift("0t1;0t1;1t1;.1");
        due("turn", x.letter(0, 8), 1);
        due("turn", x.letter(2, 8), 2);
        due("crossed", x.crossed(0, 2), 1);
    }

    // ---- promise 20

    // "UNKNOWN (field, or no edge is there)"
    private static void p20Unknown() {
        FenceDuel x = new FenceDuel();
        for (int field : NO_FIELDS) {
            due("fence, field " + field, x.reasonEdge(false, field, 1), UNKNOWN);
            due("gap, field " + field, x.reasonEdge(true, field, 1), UNKNOWN);
        }
        for (int side : NO_SIDES) {
            for (int field = 0; field < 48; field++) {
                due("side " + side + " of " + field, x.reasonEdge(field % 2 == 0, field, side), UNKNOWN);
            }
        }
        for (int column = 0; column < 8; column++) {
            due("north rim", x.reasonEdge(true, column, 0), UNKNOWN);
            due("south rim", x.reasonEdge(false, 40 + column, 2), UNKNOWN);
        }
        for (int row = 0; row < 6; row++) {
            due("west rim", x.reasonEdge(true, row * 8, 3), UNKNOWN);
            due("east rim", x.reasonEdge(false, row * 8 + 7, 1), UNKNOWN);
        }
    }

    // "Returns the reason 1 to 3; 0 if it would be done": each thing that an edge has
    private static void p20Reasons() {
        FenceDuel x = swift("0f9e;1f9s;.1", "0f9n;1f9n;.1");
        int[] fence = {1, 1, 1, 0};
        int[] gap = {2, 0, 0, 2};
        for (int side = 0; side < 4; side++) {
            due("fence at " + side, x.reasonEdge(false, 9, side), fence[side]);
            due("gap at " + side, x.reasonEdge(true, 9, side), gap[side]);
        }
        game(x, "0t1;1t1;.1");
        int[] gapInATruce = {2, 3, 3, 2};
        for (int side = 0; side < 4; side++) {
            due("fence in a truce at " + side, x.reasonEdge(false, 9, side), fence[side]);
            due("gap in a truce at " + side, x.reasonEdge(true, 9, side), gapInATruce[side]);
        }
        x.pass(1);
        due("the truce has ended", x.reasonEdge(true, 9, 1), 0);
    }

    // "alone in its turn": not as the second letter of the turn that waits
    private static void p20AloneInItsTurn() {
        FenceDuel x = new FenceDuel();
        x.writeEdge(0, false, 9, 1);
        x.pass(2);
        x.writeEdge(1, false, 9, 1);
        x.pass(1);
        due("the one that is on its way will grow a hedge", x.ifAllCome(2), 1);
        due("alone it would be refused", x.reasonEdge(false, 9, 1), 1);
    }

    // ---- promise 21

    // "UNKNOWN"
    private static void p21Unknown() {
        FenceDuel x = new FenceDuel();
        for (int field : NO_FIELDS) {
            due("field " + field, x.reasonClaim(field), UNKNOWN);
        }
        due("first field", x.reasonClaim(0), 5);
        due("last field", x.reasonClaim(47), 5);
    }

    // "Returns the reason 4 or 5; 0 if it would be done"
    private static void p21Reasons() {
        FenceDuel x = swift(SHUT_CORNER);
        due("one field", x.reasonClaim(0), 0);
        due("47 fields", x.reasonClaim(1), 5);
        x.set(1, 46);
        due("too large by one", x.reasonClaim(1), 5);
        x.set(1, 47);
        due("just so large", x.reasonClaim(1), 0);
        x.set(1, 1);
        due("just so small", x.reasonClaim(0), 0);
        game(x, "0c0;.1");
        due("taken", x.reasonClaim(0), 4);
        game(x, "0g0e;.1");
        due("4 ahead of 5", x.reasonClaim(0), 4);
        due("48 fields", x.reasonClaim(1), 5);
        x.set(1, 48);
        due("just so large", x.reasonClaim(1), 0);
    }

    // "alone in its turn": never the reason 6
    private static void p21AloneInItsTurn() {
        FenceDuel x = swift(SHUT_CORNER, "0c0");
        x.set(0, 3);
        x.writeClaim(1, 0);
        x.pass(1);
        due("taken", x.reasonClaim(0), 4);
        due("though the one on its way makes it void", x.ifAllCome(0), 0);
    }

    // ---- promise 22

    // "what: 0 .. 1" and "NONE if none is on its way"
    private static void p22Refused() {
        FenceDuel x = new FenceDuel();
        for (int what : new int[] {MIN, -1, 2, MAX}) {
            due("bad value ahead of none, " + what, x.next(what), BAD_VALUE);
        }
        due("none", x.next(0), NONE);
        due("none", x.next(1), NONE);
        x.writeTruce(0, 1);
        due("what 2", x.next(2), BAD_VALUE);
        x.callBack(0);
        due("called back", x.next(0), NONE);
        x.writeTruce(0, 1);
        x.pass(3);
        due("has come", x.next(0), NONE);
        due("has come", x.next(1), NONE);
    }

    // "Finds the letter that comes next, of several the lowest."
    private static void p22TheLowest() {
        FenceDuel x = new FenceDuel();
        int[] ways = {9, 4, 7, 4, 4};
        for (int way : ways) {
            x.set(0, way);
            x.writeTruce(0, 1);
        }
        due("the lowest of three", x.next(0), 1);
        x.callBack(1);
        due("the lowest of two", x.next(0), 3);
        x.pass(4);
        due("the next", x.next(0), 2);
        due("in days", x.next(1), 3);
        x.pass(3);
        due("the last", x.next(0), 0);
        due("the lowest of all", withLetters(60).next(0), 0);
    }

    // "1 for in how many days it comes": the most and the least
    private static void p22Days() {
        FenceDuel x = new FenceDuel();
        x.set(0, 9);
        x.writeTruce(0, 1);
        due("the most", x.next(1), 9);
        x.pass(8);
        due("the least", x.next(1), 1);
        due("the letter", x.next(0), 0);
    }

    // ---- promise 23

    // "what: 0 .. 3"
    private static void p23What() {
        FenceDuel x = new FenceDuel();
        for (int what : new int[] {MIN, -1, 4, MAX}) {
            due("what " + what, x.ifAllCome(what), BAD_VALUE);
        }
        for (int what = 0; what < 4; what++) {
            due("nothing on its way, " + what, x.ifAllCome(what), 0);
        }
    }

    // "when all letters that are on their way have come": none are: what there is now
    private static void p23NoneOnTheirWay() {
        FenceDuel x = swift(SHUT_CORNER, "0f47n;0f47w;.1", "0c0;1c47;.1", "0f9e;1f9e;.1", "0g9e;.1");
        due("fields of 0", x.ifAllCome(0), 1);
        due("fields of 1", x.ifAllCome(1), 1);
        due("hedges", x.ifAllCome(2), 1);
        due("refused so far", x.ifAllCome(3), 1);
    }

    // "Tells what there would be": it changes nothing.
    private static void p23ChangesNothing() {
        FenceDuel x = swift(SHUT_CORNER, "0c0;0f9e;1f9e;1f9e");
        for (int what = 0; what < 4; what++) {
            due("then, " + what, x.ifAllCome(what), what == 0 || what > 1 ? 1 : 0);
        }
        due("owner", x.field(0, 0), NONE);
        due("edge", x.edge(9, 1), 0);
        due("day", x.count(0), 1);
        due("turns", x.count(5), 2);
        due("on their way", x.count(2), 4);
        due("refused", x.count(4), 0);
        due("states", x.count(18), 3);
        due("they come as ever", x.pass(1), 4);
        due("owner", x.field(0, 0), 0);
    }

    // "all letters that are on their way": those that were called back are not.
    private static void p23CalledBack() {
        FenceDuel x = swift(SHUT_CORNER, "0c0;1c0");
        due("void", x.ifAllCome(0), 0);
        due("refused", x.ifAllCome(3), 1);
        x.callBack(2);
        due("the other one's", x.ifAllCome(1), 1);
        due("none is refused", x.ifAllCome(3), 0);
        x.callBack(3);
        due("nobody's", x.ifAllCome(1), 0);
    }

    // The same: as many as there can be, of any way; and those that are due beyond the last day
    private static void p23AllOfThem() {
        FenceDuel x = new FenceDuel();
        for (int letter = 0; letter < 60; letter++) {
            x.set(0, 1 + letter % 9);
            due("letter", x.writeEdge(0, true, 9, 1), letter);
        }
        due("all are refused", x.ifAllCome(3), 60);
        FenceDuel y = onDay(9999);
        y.set(0, 9);
        y.writeEdge(0, false, 9, 1);
        y.writeEdge(1, false, 9, 1);
        y.writeEdge(1, false, 9, 1);
        due("beyond the last day", y.ifAllCome(2), 1);
        due("beyond the last day", y.ifAllCome(3), 1);
        due("day", y.count(0), 9999);
    }

    // ---- promise 24

    // "what: 0 .. 1" and "NONE if each one would be refused"
    private static void p24Refused() {
        FenceDuel x = new FenceDuel();
        for (int what : new int[] {MIN, -1, 2, MAX}) {
            due("bad value ahead of none, " + what, x.bestClaim(what), BAD_VALUE);
        }
        due("all too large", x.bestClaim(0), NONE);
        due("all too large", x.bestClaim(1), NONE);
        x.set(1, 48);
        due("what 2", x.bestClaim(2), BAD_VALUE);
        due("the lowest field", x.bestClaim(0), 0);
        due("all fields", x.bestClaim(1), 48);
        game(x, "1c47;.3");
        due("all taken", x.bestClaim(0), NONE);
        due("all taken", x.bestClaim(1), NONE);
    }

    // "of several the lowest field": of several regions, and in a region
    private static void p24TheLowest() {
        FenceDuel x = swift("0f47n;0f47w;0f7s;0f7w;.1");
        due("of two regions", x.bestClaim(0), 7);
        due("takes", x.bestClaim(1), 1);
        game(x, "0f39n;0f39w;0f46n;0f46w;0g47n;0g47w;.1");
        due("the region of three", x.bestClaim(0), 39);
        due("takes", x.bestClaim(1), 3);
    }

    // "would take the most fields": those that belong to a player are not taken.
    private static void p24OwnedFields() {
        FenceDuel x = swift("0f1e;0f1s;0f0e;0f0s;.1", "1c0;.1", "0g0e;0f7s;0f7w;.1");
        due("both take one, the lower one is the field 1", x.bestClaim(0), 1);
        due("takes", x.bestClaim(1), 1);
        x.set(1, 1);
        due("its region is too large then", x.bestClaim(0), 7);
        due("takes", x.bestClaim(1), 1);
    }

    // ---- promise 25

    // "BAD_VALUE"
    private static void p25What() {
        FenceDuel x = new FenceDuel();
        for (int what : new int[] {MIN, -1, 20, 21, MAX}) {
            due("what " + what, x.count(what), BAD_VALUE);
        }
        due("first", x.count(0), 0);
        due("last", x.count(19), 0);
    }

    // "letters so far, those on their way, that were done, that were refused": the same letter is never told twice
    private static void p25Letters() {
        FenceDuel x = swift("0f9e;0f9e;0t1;.1", "0t1;0t1");
        x.callBack(4);
        int[] counts = {5, 1, 2, 1};
        for (int i = 0; i < 4; i++) {
            due("count(" + (i + 1) + ")", x.count(i + 1), counts[i]);
        }
        FenceDuel y = withLetters(60);
        due("all on their way", y.count(2), 60);
        y.pass(3);
        due("none on its way", y.count(2), 0);
        due("all done", y.count(3), 60);
        due("turns of two", y.count(6), 30);
        due("turns", y.count(5), 30);
    }

    // A claim that was made void stays done, and the other one is refused.
    private static void p25VoidClaims() {
        FenceDuel x = swift(SHUT_CORNER, "0c0;1c0;.1");
        due("done", x.count(3), 3);
        due("refused", x.count(4), 1);
        due("fields of 0", x.count(7), 0);
        due("fields of 1", x.count(8), 0);
    }

    // "7 and 8 for fields of the players 0 and 1": up to all
    private static void p25Fields() {
        for (int player = 0; player < 2; player++) {
            FenceDuel x = swift();
            x.set(1, 48);
            x.writeClaim(player, 30);
            x.pass(1);
            due("all", x.count(7 + player), 48);
            due("none", x.count(8 - player), 0);
        }
    }

    // "9 and 10 for their fences, 11 for hedges": each edge once
    private static void p25Fences() {
        FenceDuel x = swift("0f9e;0f9s;1f20e;.1", "0f30e;1f30e;.1");
        due("fences of 0", x.count(9), 2);
        due("fences of 1", x.count(10), 1);
        due("hedges", x.count(11), 1);
        game(x, "1g9e;1g30e;.1");
        due("fences of 0", x.count(9), 1);
        due("hedges", x.count(11), 1);
    }

    // "12 for regions": one, and as many as letters can make
    private static void p25Regions() {
        FenceDuel x = new FenceDuel();
        due("one", x.count(12), 1);
        // All edges of the upper half but those to the row below it, then some of the third row.
        for (int field = 0; field < 16; field++) {
            if (field % 8 < 7) {
                x.writeEdge(0, false, field, 1);
            }
            x.writeEdge(0, false, field, 2);
        }
        x.pass(3);
        due("16 fields by themselves, and the rest", x.count(12), 17);
        for (int field = 0; field < 16; field++) {
            due("by itself", x.field(field, 1), 1);
        }
        due("the rest", x.field(16, 1), 32);
        due("its lowest", x.field(47, 3), 16);
    }

    // "13 for whether there is a truce today (1, otherwise 0)"
    private static void p25Truce() {
        FenceDuel x = swift("0t2;.1", "1t2;.1");
        due("ends", x.count(14), 3);
        due("ends", x.count(15), 4);
        due("on the day 2", x.count(13), 1);
        x.pass(1);
        due("on the day 3", x.count(13), 0);
        x.undo();
        due("on the day 2 again", x.count(13), 1);
    }

    // "14 and 15 for the ends that the players named last (0 at first)": a past end stays named.
    private static void p25Ends() {
        FenceDuel x = swift("0t1;.1");
        due("end of 0", x.count(14), 2);
        due("end of 1", x.count(15), 0);
        x.pass(99);
        due("end of 0", x.count(14), 2);
        game(x, "1t99;.1");
        due("end of 1", x.count(15), 200);
        due("end of 0", x.count(14), 2);
    }

    // "18 for the states in the history, 19 for the length of the text": empty and full
    private static void p25StatesAndText() {
        FenceDuel x = new FenceDuel();
        for (int i = 1; i <= 61; i++) {
            x.type('x');
            due("text", x.count(19), Math.min(i, 60));
        }
        for (int i = 1; i <= 6; i++) {
            x.pass(1);
            due("states", x.count(18), Math.min(i, 4));
        }
        x.clearText();
        due("text", x.count(19), 0);
    }

    public static void main(String[] args) throws Exception {
        Map<String, Method> tests = new TreeMap<>();
        for (Method method : BoundariesTest.class.getDeclaredMethods()) {
            boolean isTest = method.getParameterCount() == 0 && method.getReturnType() == void.class;
            if (isTest && Modifier.isStatic(method.getModifiers())) {
                tests.put(method.getName(), method);
            }
        }
        for (Method method : tests.values()) {
            test = method.getName();
            method.invoke(null);
        }
        System.out.println(tests.size() + " tests of boundaries, " + answers + " answers, " + wrong + " of them not as due");
        if (wrong != 0 || tests.isEmpty()) {
            System.exit(1);
        }
    }
}

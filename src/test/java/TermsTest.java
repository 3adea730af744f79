import java.lang.reflect.Method;
import java.lang.reflect.Modifier;
import java.util.Map;
import java.util.TreeMap;

// Each sentence of the document's terms that names a boundary case has a test of its own here. Every test is a
// method without parameters; main finds them all, so that none can be forgotten.
public final class TermsTest {
    private static final int UNKNOWN = -1;
    private static final int BAD_VALUE = -2;
    private static final int FULL = -3;
    private static final int NOT_POSSIBLE = -4;
    private static final int NONE = -5;

    private static String test = "";
    private static int answers = 0;
    private static int wrong = 0;

    private static void due(String what, int got, int want) {
        answers++;
        if (got != want) {
            wrong++;
            System.out.println(test + ": " + what + ": answered " + got + ", due is " + want);
        }
    }

    private static int game(FenceDuel x, String text) {
        x.clearText();
        for (int i = 0; i < text.length(); i++) {
            x.type(text.charAt(i));
        }
        return x.perform();
    }

    // Letters need one day, so that games are short.
    private static FenceDuel swift(String... games) {
        FenceDuel x = new FenceDuel();
        x.set(0, 1);
        for (String text : games) {
            due("things of " + text, game(x, text), text.split(";").length);
        }
        return x;
    }

    // How a letter came out: 10 times its turn, and the reason for which it was refused.
    private static void came(FenceDuel x, int letter, int turn, int reason) {
        due("turn of letter " + letter, x.letter(letter, 8), turn);
        due("reason of letter " + letter, x.letter(letter, 7), reason);
        due("how letter " + letter + " is", x.letter(letter, 6), reason == 0 ? 1 : 2);
    }

    private static void region(FenceDuel x, int field, int size, int lowest) {
        due("fields of the region of " + field, x.field(field, 1), size);
        due("joined with " + field, x.joined(field), size);
        due("lowest of the region of " + field, x.field(field, 3), lowest);
    }

    // ---- the ground

    // "The ground has 6 rows of 8 fields"
    private static void groundEndsWithField47() {
        FenceDuel x = new FenceDuel();
        region(x, 0, 48, 0);
        region(x, 47, 48, 0);
        due("ahead of the first", x.field(-1, 0), UNKNOWN);
        due("behind the last", x.field(48, 0), UNKNOWN);
        due("ahead of the first", x.joined(-1), UNKNOWN);
        due("behind the last", x.joined(48), UNKNOWN);
    }

    // "the field f is in the row f / 8, rounded down": the end of a row is not beside the start of the next.
    private static void rowsDoNotRunOn() {
        FenceDuel x = swift("0f7w;0f7s;1f40n;1f40e;.1");
        for (int row = 0; row < 5; row++) {
            due("end of row " + row, x.edge(row * 8 + 7, 1), UNKNOWN);
            due("start of the row behind it", x.edge(row * 8 + 8, 3), UNKNOWN);
        }
        region(x, 7, 1, 7);
        region(x, 40, 1, 40);
        region(x, 8, 46, 0);
        region(x, 39, 46, 0);
        due("regions", x.count(12), 3);
    }

    // "and in the column f modulo 8": the foot of a column is not beside its head.
    private static void columnsDoNotRunRound() {
        FenceDuel x = swift("0f0e;0f0s;1f47n;1f47w;.1");
        for (int column = 0; column < 8; column++) {
            due("head of column " + column, x.edge(column, 0), UNKNOWN);
            due("its foot", x.edge(40 + column, 2), UNKNOWN);
        }
        region(x, 0, 1, 0);
        region(x, 47, 1, 47);
        region(x, 40, 46, 1);
        region(x, 7, 46, 1);
    }

    // "The sides of a field are 0 (north, toward the row above), 1 (east), 2 (south), 3 (west)."
    private static void sidesLieRoundTheField() {
        FenceDuel x = swift("0f20n;.1", "1f20e;.1", "0f20s;.1", "1f20w;.1");
        due("south of the field above", x.edge(12, 2), 1);
        due("west of the field to the east", x.edge(21, 3), 2);
        due("north of the field below", x.edge(28, 0), 1);
        due("east of the field to the west", x.edge(19, 1), 2);
        region(x, 20, 1, 20);
        region(x, 12, 47, 0);
    }

    // "Between two fields beside one another is an edge (told by either field and its side toward the other one)"
    private static void eachEdgeIsToldByBothFields() {
        FenceDuel x = new FenceDuel();
        FenceDuel y = new FenceDuel();
        for (int field = 0; field < 48; field++) {
            due("to the east of " + field, x.writeEdge(0, false, field, 1) >= 0 ? 1 : 0, field % 8 < 7 ? 1 : 0);
            due("to the south of " + field, y.writeEdge(1, false, field, 2) >= 0 ? 1 : 0, field < 40 ? 1 : 0);
        }
        due("all between columns", x.pass(3), 42);
        due("all between rows", y.pass(3), 40);
        for (int field = 0; field < 48; field++) {
            due("from the west side, " + field, x.edge(field, 3), field % 8 > 0 ? 1 : UNKNOWN);
            due("from the north side, " + field, y.edge(field, 0), field > 7 ? 2 : UNKNOWN);
            due("nothing to the north of " + field, x.edge(field, 0), field > 7 ? 0 : UNKNOWN);
            due("nothing to the west of " + field, y.edge(field, 3), field % 8 > 0 ? 0 : UNKNOWN);
        }
        due("fences between columns", x.count(9), 42);
        due("regions are columns", x.count(12), 8);
        region(x, 47, 6, 7);
        due("fences between rows", y.count(10), 40);
        due("regions are rows", y.count(12), 6);
        region(y, 47, 8, 40);
    }

    // "At first there is nothing."
    private static void atFirstThereIsNothing() {
        FenceDuel x = new FenceDuel();
        int open = 0;
        for (int field = 0; field < 48; field++) {
            for (int side = 0; side < 4; side++) {
                open += x.edge(field, side) == 0 ? 1 : 0;
            }
        }
        due("sides with an edge that has nothing", open, 164);
        due("fences of 0", x.count(9), 0);
        due("fences of 1", x.count(10), 0);
        due("hedges", x.count(11), 0);
    }

    // "The rim of the ground is shut."
    private static void theRimHasNoEdge() {
        FenceDuel x = new FenceDuel();
        int rim = 0;
        for (int field = 0; field < 48; field++) {
            for (int side = 0; side < 4; side++) {
                rim += x.edge(field, side) == UNKNOWN ? 1 : 0;
            }
        }
        due("sides at the rim", rim, 28);
        due("a corner has two edges", x.field(0, 4), 0);
        FenceDuel y = swift("0f0e;0f0s;.1");
        due("the rim is not counted", y.field(0, 4), 2);
    }

    // "A region is fields that can be reached from one another over edges that have nothing.": by any way round.
    private static void aRegionMayWind() {
        FenceDuel x = new FenceDuel();
        for (int row = 0; row < 5; row++) {
            for (int column = 0; column < 8; column++) {
                if (column != (row % 2 == 0 ? 7 : 0)) {
                    x.writeEdge(row % 2, false, row * 8 + column, 2);
                }
            }
        }
        due("walls", x.pass(3), 35);
        due("one region still", x.count(12), 1);
        region(x, 0, 48, 0);
        region(x, 40, 48, 0);
        x.writeEdge(0, false, 39, 2);
        x.pass(3);
        region(x, 0, 40, 0);
        region(x, 47, 8, 40);
        due("two regions then", x.count(12), 2);
    }

    // The same: a hedge shuts as a fence does, a corner does not join, a gap opens again.
    private static void fencesAndHedgesShut() {
        FenceDuel x = swift("0f0e;1f0e;0f0s;1f0s;.1");
        due("hedges", x.count(11), 2);
        region(x, 0, 1, 0);
        region(x, 9, 47, 1);
        FenceDuel y = swift("0f0e;1f0s;.1", "0g0s;.1");
        region(y, 0, 48, 0);
        due("a fence inside a region", y.edge(0, 1), 1);
    }

    // "A field belongs to nobody, or to a player (to nobody at first)."
    private static void fieldsBelongToNobodyAtFirst() {
        FenceDuel x = new FenceDuel();
        for (int field = 0; field < 48; field++) {
            due("owner of " + field, x.field(field, 0), NONE);
        }
        due("fields of 0", x.count(7), 0);
        due("fields of 1", x.count(8), 0);
    }

    // ---- letters

    // "The day is 0 at first."
    private static void theDayIs0AtFirst() {
        FenceDuel x = new FenceDuel();
        due("day", x.count(0), 0);
        x.writeTruce(0, 1);
        due("written", x.letter(0, 4), 0);
    }

    // "There are 2 players, 0 and 1."
    private static void thereAreTwoPlayers() {
        FenceDuel x = new FenceDuel();
        int[] players = {-1, 0, 1, 2};
        int[] wants = {UNKNOWN, 0, 1, UNKNOWN};
        for (int i = 0; i < players.length; i++) {
            due("a letter of player " + players[i], x.writeClaim(players[i], 0), wants[i]);
        }
    }

    // "At most 60 letters are written ever": those that have come, or were called back, take their room still.
    private static void sixtyLettersEver() {
        FenceDuel x = new FenceDuel();
        for (int i = 0; i < 60; i++) {
            due("letter " + i, x.writeTruce(i % 2, 1), i);
        }
        due("one more", x.writeTruce(0, 1), FULL);
        due("one is called back", x.callBack(0), 3);
        due("one more", x.writeClaim(0, 1), FULL);
        due("the others come", x.pass(3), 59);
        due("one more", x.writeEdge(0, true, 0, 1), FULL);
        due("letters", x.count(1), 60);
        due("the last one", x.letter(59, 6), 1);
        due("behind the last one", x.letter(60, 6), UNKNOWN);
    }

    // The same: what was undone was never written.
    private static void undoMakesRoomForALetter() {
        FenceDuel x = new FenceDuel();
        for (int i = 0; i < 59; i++) {
            x.writeClaim(0, 0);
        }
        x.keep();
        due("the last one", x.writeClaim(0, 7), 59);
        due("one more", x.writeClaim(0, 8), FULL);
        x.undo();
        due("again", x.writeTruce(1, 9), 59);
        due("its kind", x.letter(59, 1), 3);
        x.restore();
        due("again", x.writeEdge(1, false, 11, 0), 59);
        due("its kind", x.letter(59, 1), 0);
        due("its side", x.letter(59, 3), 0);
        due("one more", x.writeEdge(1, false, 11, 0), FULL);
    }

    // "numbered from 0 in the order in which they were written"
    private static void lettersAreNumberedFrom0() {
        FenceDuel x = new FenceDuel();
        due("first", x.writeTruce(1, 2), 0);
        x.set(0, 1);
        due("second", x.writeClaim(0, 2), 1);
        x.pass(9);
        due("third", x.writeEdge(1, true, 2, 1), 2);
        due("no letter ahead of 0", x.letter(-1, 0), UNKNOWN);
        due("no letter yet", x.letter(3, 0), UNKNOWN);
    }

    // "it comes the setting 0 of days after the day on which it was written (1 to 9; 3 at first)"
    private static void aLetterNeedsTheDaysOfTheSetting() {
        FenceDuel x = new FenceDuel();
        int[] ways = {3, 1, 9};
        for (int letter = 0; letter < ways.length; letter++) {
            due("setting", letter == 0 ? 3 : x.set(0, ways[letter]), letter == 0 ? 3 : ways[letter - 1]);
            int today = x.count(0);
            x.writeTruce(0, 1);
            due("comes on", x.letter(letter, 5), today + ways[letter]);
            if (ways[letter] > 1) {
                due("not ahead of it", x.pass(ways[letter] - 1), 0);
            }
            due("on its way", x.letter(letter, 6), 0);
            due("on that day", x.pass(1), 1);
            due("has come", x.letter(letter, 6), 1);
        }
    }

    // "When a day begins, the letters that are due then come, by their numbers.": however long their ways were.
    private static void lettersOfOneDayComeByNumber() {
        FenceDuel x = new FenceDuel();
        x.set(0, 9);
        x.writeEdge(1, false, 9, 1);
        x.pass(8);
        x.set(0, 1);
        x.writeEdge(1, false, 9, 1);
        x.writeEdge(1, false, 10, 3);
        due("all on one day", x.pass(1), 3);
        came(x, 0, 1, 0);
        came(x, 1, 2, 1);
        came(x, 2, 3, 1);
    }

    // "When a day begins": an earlier day ahead of a lower number.
    private static void lettersOfAnEarlierDayComeFirst() {
        FenceDuel x = new FenceDuel();
        x.set(0, 2);
        x.writeEdge(0, false, 9, 1);
        x.set(0, 1);
        x.writeEdge(0, false, 9, 1);
        due("both in one call", x.pass(2), 2);
        came(x, 1, 1, 0);
        came(x, 0, 2, 1);
    }

    // "a fence (0) at an edge: refused (reason 1) if the edge has something; it has a fence of the player then"
    private static void aFenceNeedsAnEmptyEdge() {
        FenceDuel x = swift("0f9e;.1", "0f9e;.1", "1f10w;.1");
        came(x, 0, 1, 0);
        came(x, 1, 2, 1);
        came(x, 2, 3, 1);
        due("the first one's fence", x.edge(9, 1), 1);
        FenceDuel y = swift("0f9e;1f9e;.1", "0f9e;.1", "1f9e;.1", "1f9s;.1");
        due("a hedge", y.edge(9, 1), 3);
        came(y, 2, 2, 1);
        came(y, 3, 3, 1);
        due("stays", y.edge(9, 1), 3);
        due("a fence of 1", y.edge(9, 2), 2);
    }

    // "a gap (1) at an edge: refused (2) if the edge has nothing, or a hedge; .. the edge has nothing then"
    private static void aGapNeedsAFence() {
        FenceDuel x = swift("0g9e;.1", "0f9e;1f9e;.1", "1g9e;.1", "0f9s;.1", "0g17n;.1", "0g9s;.1");
        came(x, 0, 1, 2);
        came(x, 3, 3, 2);
        due("the hedge stays", x.edge(9, 1), 3);
        came(x, 5, 5, 0);
        due("nothing", x.edge(9, 2), 0);
        came(x, 6, 6, 2);
    }

    // The same: whose fence it is does not matter.
    private static void aGapOpensEitherPlayersFence() {
        FenceDuel x = swift("0f9e;1f9s;.1", "1g9e;.1", "0g9s;.1");
        came(x, 2, 2, 0);
        came(x, 3, 3, 0);
        due("fences of 0", x.count(9), 0);
        due("fences of 1", x.count(10), 0);
    }

    // "(3) if there is a truce on that day": the reason 2 is told ahead of it.
    private static void aGapIsRefusedInATruce() {
        FenceDuel x = swift("0f9e;.1", "0f9s;1f9s;.1", "0t2;1t2;0g9e;.1");
        came(x, 5, 4, 3);
        due("stays", x.edge(9, 1), 1);
        game(x, "0g9n;0g9s;0g9e;.1");
        came(x, 6, 5, 2);
        came(x, 7, 6, 2);
        came(x, 8, 7, 3);
        game(x, "0g9e;.1");
        came(x, 9, 8, 0);
        due("day", x.count(0), 5);
        due("the end of both", x.count(14), 5);
        due("opened", x.edge(9, 1), 0);
    }

    // "if there is a truce on that day": that on which the gap comes, not that on which it was written.
    private static void theDayOfTheGapCounts() {
        FenceDuel x = swift("0f9e;0t3;1t3;.1");
        due("truce", x.count(13), 1);
        x.set(0, 3);
        game(x, "0g9e;.3");
        due("written in the truce, done behind it", x.letter(3, 6), 1);
        FenceDuel y = swift("0f9e;.1", "0g9e;0t3;1t3;.1");
        due("by its number ahead of the truce of its day", y.letter(1, 6), 1);
    }

    // "a claim (2) of a field: refused (4) if the field belongs to a player": ahead of the reason 5.
    private static void aClaimNeedsAFieldOfNobody() {
        FenceDuel x = swift("0f0e;0f0s;.1", "1c0;.1", "1c0;.1", "0c0;.1");
        came(x, 3, 4, 4);
        came(x, 4, 5, 4);
        due("owner", x.field(0, 0), 1);
        game(x, "0g0e;.1");
        game(x, "0c0;.1");
        due("though the region is too large", x.field(0, 1), 48);
        came(x, 6, 7, 4);
    }

    // "(5) if its region has more fields than the setting 1 tells (1 to 48; 9 at first)"
    private static void aClaimNeedsASmallRegion() {
        // Columns 0 to 2 of the rows 0 to 2: 9 fields; then one more.
        String[] walls = {"0f2e;0f10e;0f18e;0f16s;0f17s;0f18s;.1", "0c0;.1"};
        FenceDuel x = swift(walls);
        due("size", x.field(0, 1), 9);
        due("nine", x.letter(6, 6), 1);
        due("fields", x.count(7), 9);
        FenceDuel y = swift(walls[0], "0g18e;0f19n;0f19e;0f19s;.1", "0c0;.1");
        due("size", y.field(0, 1), 10);
        due("ten", y.letter(10, 7), 5);
        due("fields", y.count(7), 0);
    }

    // The same, at both ends of the setting.
    private static void theLeastAndTheGreatestSetting() {
        FenceDuel x = swift("0f0e;0f0s;0f47n;0f46n;0f46w;.1");
        x.set(1, 1);
        game(x, "1c47;.1;1c0;.1");
        due("two fields", x.letter(5, 7), 5);
        due("one field", x.letter(6, 7), 0);
        x.set(1, 2);
        game(x, "1c47;.1");
        due("two fields", x.letter(7, 7), 0);
        FenceDuel y = new FenceDuel();
        y.set(1, 47);
        y.writeClaim(0, 20);
        y.pass(3);
        due("48 fields", y.letter(0, 7), 5);
        y.set(1, 48);
        y.writeClaim(0, 20);
        y.pass(3);
        due("48 fields", y.letter(1, 7), 0);
        due("all", y.count(7), 48);
    }

    // "its region has more fields": those that belong to players count, too.
    private static void ownedFieldsCountForTheSize() {
        FenceDuel x = swift("0f1e;0f1s;0f0e;0f0s;.1", "0c0;.1", "0g0e;.1");
        x.set(1, 1);
        due("one of two is free", x.field(1, 2), 1);
        game(x, "1c1;.1");
        came(x, 6, 7, 5);
        x.set(1, 2);
        game(x, "1c1;.1");
        came(x, 7, 8, 0);
    }

    // "all fields of the region that belong to nobody belong to the player then"
    private static void aClaimTakesWhatBelongsToNobody() {
        FenceDuel x = swift("0f1e;0f1s;0f0e;0f0s;.1", "0c0;.1", "0g0e;.1", "1c1;.1");
        due("not what belongs to the other one", x.field(0, 0), 0);
        due("the rest of the region", x.field(1, 0), 1);
        due("not what lies outside", x.field(2, 0), NONE);
        due("not what lies outside", x.field(8, 0), NONE);
        due("fields of 0", x.count(7), 1);
        due("fields of 1", x.count(8), 1);
    }

    // "a truce (3) of some days (1 to 99)": both ends.
    private static void aTruceHas1To99Days() {
        FenceDuel x = new FenceDuel();
        due("no days", x.writeTruce(0, 0), BAD_VALUE);
        due("one day", x.writeTruce(0, 1), 0);
        due("99 days", x.writeTruce(1, 99), 1);
        due("100 days", x.writeTruce(1, 100), BAD_VALUE);
        x.pass(3);
        due("end of 0", x.count(14), 4);
        due("end of 1", x.count(15), 102);
    }

    // "never refused": not in a truce, nor in a turn with any other letter.
    private static void aTruceIsNeverRefused() {
        FenceDuel x = swift("0t5;1t5;.1", "0t1;1f9e;.1", "1f9e;0t7;.1");
        came(x, 2, 2, 0);
        came(x, 4, 3, 1);
        came(x, 5, 3, 0);
        due("end of 0", x.count(14), 10);
    }

    // "the player names as the end of a truce that day on which it comes and so many days more"
    private static void theEndIsToldFromTheDayOfComing() {
        FenceDuel x = new FenceDuel();
        x.writeTruce(0, 4);
        due("nothing named yet", x.count(14), 0);
        x.pass(99);
        due("named on the day 3", x.count(14), 7);
        due("the other player named none", x.count(15), 0);
    }

    // "There is a truce on a day that is ahead of the ends that both players have named last."
    private static void aTruceIsAheadOfBothEnds() {
        FenceDuel x = swift("0t1;1t2;.1");
        due("ahead of both ends", x.count(13), 1);
        x.pass(1);
        due("on the day of the lower end", x.count(13), 0);
        FenceDuel y = swift("0t2;1t1;.1", ".1");
        due("the same for the other player's", y.count(13), 0);
        FenceDuel z = swift("0t99;.1");
        due("one player alone", z.count(13), 0);
        FenceDuel u = swift("1t99;.1");
        due("the other one alone", u.count(13), 0);
        due("none at first", new FenceDuel().count(13), 0);
    }

    // "named last": a later, shorter truce counts, not the longest one.
    private static void theLastNamedEndCounts() {
        FenceDuel x = swift("0t50;1t50;.1");
        due("truce", x.count(13), 1);
        game(x, "0t1;.1");
        due("end", x.count(14), 3);
        due("truce", x.count(13), 1);
        x.pass(1);
        due("no truce", x.count(13), 0);
        game(x, "0t2;.1");
        due("truce again", x.count(13), 1);
    }

    // ---- turns, crossed letters

    // "A letter that comes, whether it is refused or done, belongs to a turn, numbered from 1."
    private static void turnsAreNumberedFrom1() {
        FenceDuel x = new FenceDuel();
        due("no turn yet", x.count(5), 0);
        x.writeEdge(0, true, 9, 1);
        due("on its way", x.letter(0, 8), NONE);
        x.writeTruce(0, 1);
        x.pass(3);
        came(x, 0, 1, 2);
        came(x, 1, 2, 0);
        due("turns", x.count(5), 2);
        due("turns of two", x.count(6), 0);
    }

    // "crossed if each was written on a day ahead of that on which the other one comes": not on that day.
    private static void crossedNeedsADayAhead() {
        FenceDuel x = new FenceDuel();
        x.writeTruce(0, 1);
        x.pass(2);
        x.writeTruce(1, 1);
        due("a day ahead", x.crossed(0, 1), 1);
        x.pass(1);
        x.writeTruce(1, 1);
        due("on that day", x.crossed(0, 2), 0);
        due("on that day", x.crossed(2, 0), 0);
        x.pass(3);
        due("a turn of two", x.letter(1, 8), 1);
        due("a turn more", x.letter(2, 8), 2);
    }

    // "Two letters, one of each player": letters of one player never cross.
    private static void lettersOfOnePlayerNeverCross() {
        FenceDuel x = swift("1f9e;1f9e;.1", "0f20e;0f20e;.1");
        due("crossed", x.crossed(0, 1), 0);
        due("crossed", x.crossed(2, 3), 0);
        came(x, 1, 2, 1);
        came(x, 3, 4, 1);
        due("no hedge", x.count(11), 0);
    }

    // "the latest turn has just one letter yet": a turn of two is full, though the third letter crossed.
    private static void aTurnHasTwoLettersAtMost() {
        FenceDuel x = swift("0t1;1t1;0t1;1t1;1t1;.1");
        int[] turns = {1, 1, 2, 2, 3};
        int[] mates = {1, 0, 3, 2, NONE};
        for (int letter = 0; letter < turns.length; letter++) {
            came(x, letter, turns[letter], 0);
            due("with it", x.letter(letter, 9), mates[letter]);
        }
        due("turns of two", x.count(6), 2);
    }

    // "of the other player": a letter of the same player begins a turn more.
    private static void oneLetterOfEachPlayerInATurn() {
        FenceDuel x = swift("0t1;0t1;1t1;.1");
        came(x, 0, 1, 0);
        came(x, 1, 2, 0);
        came(x, 2, 2, 0);
        due("the first is alone", x.letter(0, 9), NONE);
        due("crossed with the first, too", x.crossed(0, 2), 1);
    }

    // "the latest turn": an earlier turn of one letter stays so.
    private static void onlyTheLatestTurnWaits() {
        FenceDuel x = new FenceDuel();
        x.writeTruce(0, 1);
        x.pass(1);
        x.writeTruce(1, 1);
        x.set(0, 1);
        x.writeTruce(0, 1);
        x.pass(3);
        due("the quick one", x.letter(2, 8), 1);
        due("its player's other one", x.letter(0, 8), 2);
        due("the last one", x.letter(1, 8), 2);
        due("with", x.letter(1, 9), 0);
        FenceDuel y = swift("1t1;0t1;.1");
        y.set(0, 5);
        y.writeTruce(0, 1);
        y.set(0, 4);
        y.writeTruce(1, 1);
        y.set(0, 3);
        y.writeTruce(0, 1);
        y.set(0, 6);
        y.writeTruce(1, 1);
        y.pass(6);
        int[] turns = {3, 2, 2, 3};
        for (int i = 0; i < turns.length; i++) {
            due("turn of letter " + (i + 2), y.letter(i + 2, 8), turns[i]);
        }
    }

    // "If a letter comes": one that was called back does not stand between two others.
    private static void aLetterCalledBackHasNoTurn() {
        FenceDuel x = swift("0f9e;0t1;1f9e");
        x.callBack(1);
        due("the others come", x.pass(1), 2);
        due("a hedge", x.edge(9, 1), 3);
        due("with", x.letter(2, 9), 0);
        due("turns", x.count(5), 1);
    }

    // "it belongs to this turn, too": on a later day as well, and though the first one was refused.
    private static void aTurnWaitsForLaterDays() {
        FenceDuel x = new FenceDuel();
        x.set(0, 9);
        x.writeEdge(1, false, 9, 1);
        x.set(0, 1);
        x.writeEdge(0, true, 9, 1);
        x.pass(1);
        came(x, 1, 1, 2);
        due("alone yet", x.letter(1, 9), NONE);
        x.pass(8);
        came(x, 0, 1, 0);
        due("with", x.letter(1, 9), 0);
        due("with", x.letter(0, 9), 1);
        due("turns of two", x.count(6), 1);
    }

    // "if both are fences at the same edge .. the edge has a hedge then, and the second letter is done"
    private static void crossedFencesGrowAHedge() {
        FenceDuel x = swift("0f9e;1f10w;.1");
        came(x, 0, 1, 0);
        came(x, 1, 1, 0);
        due("told by either field", x.edge(9, 1), 3);
        due("told by either field", x.edge(10, 3), 3);
        due("no fence of 0", x.count(9), 0);
        due("no fence of 1", x.count(10), 0);
    }

    // "at the same edge": not at another edge of the same field, nor at the same side of another field.
    private static void fencesAtTwoEdgesGrowNoHedge() {
        FenceDuel x = swift("0f9e;1f9w;.1", "0f20n;1f21n;.1");
        came(x, 1, 1, 0);
        came(x, 3, 2, 0);
        due("fences of 0", x.count(9), 2);
        due("fences of 1", x.count(10), 2);
        due("hedges", x.count(11), 0);
    }

    // "both crossed" .. "at the same edge": without a turn in common there is a reason 1.
    private static void fencesOfTwoTurnsGrowNoHedge() {
        FenceDuel x = swift("0f9e;.1", "1f9e;.1");
        came(x, 0, 1, 0);
        came(x, 1, 2, 1);
        due("fence", x.edge(9, 1), 1);
    }

    // "and the first one was done": a refused first one grows nothing; the second one is refused for the reason 1.
    private static void aRefusedFenceGrowsNoHedge() {
        FenceDuel x = swift("1f9e;.1", "0f9e;1f9e;.1", "1f9e;0f9e;.1");
        came(x, 1, 2, 1);
        came(x, 2, 2, 1);
        came(x, 3, 3, 1);
        came(x, 4, 3, 1);
        due("the old fence", x.edge(9, 1), 2);
    }

    // "if both are fences": a gap has its own way, in either place of the turn.
    private static void aGapInATurnWithAFence() {
        FenceDuel x = swift("0f9e;1g9e;.1", "0f9e;.1", "0g9e;1f9e;.1");
        came(x, 0, 1, 0);
        came(x, 1, 1, 0);
        came(x, 3, 3, 0);
        came(x, 4, 3, 0);
        due("a fence of 1", x.edge(9, 1), 2);
        due("no hedge", x.count(11), 0);
    }

    private static final String SHUT_TWO = "0f1e;0f1s;0f0s;.1";

    // "if both are claims .. the claim of the first one is void (its letter stays done)"
    private static void crossedClaimsAreVoid() {
        FenceDuel x = swift(SHUT_TWO, "0c0;1c0;.1");
        came(x, 3, 4, 0);
        came(x, 4, 4, 6);
        due("nobody's", x.field(0, 0), NONE);
        due("nobody's", x.field(1, 0), NONE);
        due("fields", x.count(7), 0);
        due("fields", x.count(8), 0);
        due("may be claimed again", x.reasonClaim(1), 0);
    }

    // "the field of the second one": any field that the first one took makes it void, not only its own.
    private static void aClaimOfAnotherFieldOfTheRegion() {
        FenceDuel x = swift(SHUT_TWO, "1c1;0c0;.1");
        came(x, 3, 4, 0);
        came(x, 4, 4, 6);
        due("nobody's", x.field(0, 0), NONE);
        due("nobody's", x.field(1, 0), NONE);
    }

    // "all fields that it took belong to nobody again": not those that were its player's ahead of it.
    private static void onlyWhatItTookIsGivenBack() {
        FenceDuel x = swift(SHUT_TWO, "0f0e;.1", "0c0;.1", "0g0e;.1", "0c1;1c1;.1");
        came(x, 6, 7, 0);
        came(x, 7, 7, 6);
        due("was its player's already", x.field(0, 0), 0);
        due("is given back", x.field(1, 0), NONE);
        due("fields", x.count(7), 1);
    }

    // "the first one was done": a refused first claim leaves the second one alone.
    private static void aRefusedClaimMakesNothingVoid() {
        FenceDuel x = swift(SHUT_TWO, "1c0;.1", "0c1;1c1;.1");
        came(x, 4, 5, 4);
        came(x, 5, 5, 4);
        due("stays", x.field(1, 0), 1);
        FenceDuel y = swift("0c0;1c0;.1");
        came(y, 0, 1, 5);
        came(y, 1, 1, 5);
    }

    // "belonged to nobody just ahead of the first one": otherwise the reason is 4, and nothing is void.
    private static void aFieldThatWasOwnedAheadOfTheFirstClaim() {
        FenceDuel x = swift(SHUT_TWO, "0f0e;.1", "0c0;.1", "0g0e;.1", "0c1;1c0;.1");
        came(x, 6, 7, 0);
        came(x, 7, 7, 4);
        due("stays taken", x.field(1, 0), 0);
        FenceDuel y = swift(SHUT_TWO, "0f0e;.1", "1c0;.1", "0g0e;.1", "0c1;1c0;.1");
        came(y, 7, 7, 4);
        due("stays taken", y.field(1, 0), 0);
        due("stays", y.field(0, 0), 1);
    }

    // "and belongs to the first one's player now": a field of another region is the second one's then.
    private static void aClaimOfAnotherRegion() {
        FenceDuel x = swift(SHUT_TWO, "0f47n;0f47w;.1", "0c0;1c47;.1", "1c9;0c0;.1");
        came(x, 5, 6, 0);
        came(x, 6, 6, 0);
        due("fields of 0", x.count(7), 2);
        due("fields of 1", x.count(8), 1);
        came(x, 7, 7, 5);
        came(x, 8, 7, 4);
    }

    // "and the second one is refused (6)": whatever the setting 1 is on that day.
    private static void voidWhateverTheSettingIs() {
        FenceDuel x = swift(SHUT_TWO, "0c0");
        x.set(0, 2);
        x.writeClaim(1, 1);
        x.pass(1);
        due("taken", x.field(1, 0), 0);
        x.set(1, 1);
        x.pass(1);
        came(x, 4, 4, 6);
        due("void", x.count(7), 0);
    }

    // "if both are claims": a fence, a gap or a truce as the first one makes nothing void.
    private static void aClaimBehindAnotherKind() {
        FenceDuel x = swift(SHUT_TWO, "0f9e;1c0;.1", "0t5;1c0;.1");
        came(x, 4, 4, 0);
        came(x, 6, 5, 4);
        due("fields", x.count(8), 2);
    }

    // A claim that was made void takes no part any more: the next one has its own turn.
    private static void aThirdClaimStandsForItself() {
        FenceDuel x = swift(SHUT_TWO, "0c0;1c0;0c0;1c0;1c0;.1");
        came(x, 3, 4, 0);
        came(x, 4, 4, 6);
        came(x, 5, 5, 0);
        came(x, 6, 5, 6);
        came(x, 7, 6, 0);
        due("fields", x.count(8), 2);
    }

    // ---- texts

    // "There is a text of at most 60 characters, empty at first."
    private static void theTextHas60Characters() {
        FenceDuel x = new FenceDuel();
        due("empty", x.count(19), 0);
        due("empty", x.clearText(), 0);
        for (int i = 1; i <= 60; i++) {
            due("type", x.type('.'), i);
        }
        due("full", x.type('.'), FULL);
        due("length", x.clearText(), 60);
    }

    private static void fault(String text, int place) {
        FenceDuel x = new FenceDuel();
        due("fault of " + text, game(x, text), -100 - place);
        due("days of " + text, x.count(0), 0);
        due("letters of " + text, x.count(1), 0);
    }

    private static void things(String text, int number) {
        due("things of " + text, game(new FenceDuel(), text), number);
    }

    // "one or more of these with ";" between two"
    private static void thingsHaveSemicolonsBetween() {
        things(".1", 1);
        things(".1;.1", 2);
        fault(";", 0);
        fault(";.1", 0);
        fault(".1;", 3);
        fault(".1;;.1", 3);
        fault(".1,.1", 2);
        fault(".1 ;.1", 2);
        fault("0c1;x", 4);
    }

    // "a player (0 or 1) and a letter, or "." and days (1 to 99: they pass)"
    private static void playersAndDaysOfAText() {
        things("0c1", 1);
        things("1c1", 1);
        fault("2c1", 0);
        fault("/c1", 0);
        fault("c1", 0);
        fault("00c1", 1);
        things(".1", 1);
        things(".99", 1);
        fault(".0", 1);
        fault(".00", 1);
        fault(".01", 1);
        fault(".100", 3);
        fault(".-1", 1);
        fault(".:", 1);
        fault("./", 1);
        fault("..", 1);
    }

    // "A letter is "f" or "g", a field (0 to 47), and a side, "n", "e", "s" or "w""
    private static void edgeLettersOfAText() {
        String[] sides = {"n", "e", "s", "w"};
        for (int side = 0; side < 4; side++) {
            FenceDuel x = new FenceDuel();
            due("f9" + sides[side], game(x, "1f9" + sides[side] + ";0g38" + sides[side]), 2);
            int[][] facts = {{1, 0, 9, side}, {0, 1, 38, side}};
            for (int letter = 0; letter < 2; letter++) {
                for (int what = 0; what < 4; what++) {
                    due("letter(" + letter + ", " + what + ")", x.letter(letter, what), facts[letter][what]);
                }
            }
        }
        things("0f0e", 1);
        things("0f47n", 1);
        things("0g0s", 1);
        things("0g47w", 1);
        fault("0f48n", 3);
        fault("0g48n", 3);
        fault("0f9", 3);
        fault("0f9x", 3);
        fault("0f9N", 3);
        fault("0fn", 2);
        fault("0f-1n", 2);
        fault("0f9nn", 4);
        fault("0f9n9", 4);
        fault("0h9n", 1);
        fault("0F9n", 1);
    }

    // "or "c" and a field; or "t" and days (1 to 99)"
    private static void claimsAndTrucesOfAText() {
        things("0c0", 1);
        things("0c47", 1);
        fault("0c48", 3);
        fault("0c", 2);
        fault("0c9n", 3);
        things("0t1", 1);
        things("0t99", 1);
        fault("0t0", 2);
        fault("0t100", 4);
        fault("0t", 2);
        fault("0t9n", 3);
    }

    // "Numbers have no zero in front, unless they are the single digit 0"
    private static void noZeroInFront() {
        fault("0c00", 3);
        fault("0c01", 3);
        fault("0f09e", 3);
        fault("0f00e", 3);
        fault("0t05", 2);
        fault(".05", 1);
        things("0c0;1f0e", 2);
        things(".10;0t90;0c40", 3);
    }

    // "a digit by which a number would be greater than told is not allowed"
    private static void noDigitTooMuch() {
        for (int number = 10; number < 100; number++) {
            due("c" + number, game(new FenceDuel(), "0c" + number), number < 48 ? 1 : -103);
            due("f" + number, game(new FenceDuel(), "0f" + number + "e"), number >= 48 ? -103 : number % 8 < 7 ? 1 : NOT_POSSIBLE);
            due("t" + number, game(new FenceDuel(), "0t" + number), 1);
            due("." + number, game(new FenceDuel(), "." + number), 1);
        }
        fault("0c470", 4);
        fault("0f470e", 4);
        fault("0c5000", 3);
        fault("0t999", 4);
        fault(".990", 3);
        fault(".99999999999", 3);
    }

    // "the index, from 0, of the first character that is not allowed at its place": what follows does not matter.
    private static void theFirstFaultIsTold() {
        fault("x0c1", 0);
        fault(".1;x;y", 3);
        fault("0c1;1t0;2", 6);
        fault("0f1e;1f99n", 8);
        fault("" + (char) 0, 0);
        fault(".1" + (char) 0xFFFF, 2);
        fault("0c1" + (char) (0x100 + '2'), 3);
    }

    // "or the length of the text if it ends too early (the empty text does)"
    private static void theTextMayEndTooEarly() {
        fault("", 0);
        String text = "0f12e;1t34;.56;1c0";
        Map<Integer, Integer> whole = Map.of(5, 1, 9, 2, 10, 2, 13, 3, 14, 3, 18, 4);
        for (int length = 0; length <= text.length(); length++) {
            String start = text.substring(0, length);
            if (whole.containsKey(length)) {
                things(start, whole.get(length));
            } else {
                fault(start, length);
            }
        }
        fault(".1;".repeat(20), 60);
        things(".1;".repeat(19) + ".11", 20);
    }

    // ---- history

    // "A history of at most 4 states is kept; when one more is recorded, the oldest one is dropped"
    private static void fourStatesAreKept() {
        FenceDuel x = new FenceDuel();
        for (int day = 1; day <= 5; day++) {
            x.pass(1);
            due("states", x.count(18), Math.min(day, 4));
        }
        due("the latest", x.undo(), 3);
        due("day", x.count(0), 4);
        for (int left = 2; left >= 0; left--) {
            due("undo", x.undo(), left);
        }
        due("the oldest that is left", x.count(0), 1);
        due("the one ahead of it was dropped", x.undo(), NONE);
        due("day", x.count(0), 1);
    }

    // The same, over many rounds of filling and emptying.
    private static void fourStatesAreKeptForLong() {
        FenceDuel x = new FenceDuel();
        for (int round = 0; round < 9; round++) {
            for (int i = 0; i < 5; i++) {
                x.pass(1);
            }
            due("states", x.count(18), 4);
            int back = 1 + round % 4;
            for (int i = 1; i <= back; i++) {
                int day = x.count(0);
                due("undo", x.undo(), 4 - i);
                due("a day back", x.count(0), day - 1);
            }
        }
    }

    // "Each call of a method that is described as an act, and returns no error and not NONE, records the state"
    private static void eachActRecords() {
        FenceDuel x = new FenceDuel();
        x.writeEdge(0, false, 9, 1);
        due("writeEdge()", x.count(18), 1);
        x.writeClaim(0, 0);
        due("writeClaim()", x.count(18), 2);
        x.writeTruce(0, 1);
        due("writeTruce()", x.count(18), 3);
        x.callBack(0);
        due("callBack()", x.count(18), 4);
        FenceDuel y = new FenceDuel();
        y.pass(1);
        due("pass()", y.count(18), 1);
        y.set(0, 1);
        due("set()", y.count(18), 2);
        game(y, ".1;.1;.1");
        due("perform(), once", y.count(18), 3);
        y.keep();
        y.restore();
        due("restore()", y.count(18), 4);
        due("undo()", y.undo(), 3);
    }

    // "and returns no error and not NONE": nothing else records.
    private static void nothingElseRecords() {
        FenceDuel x = new FenceDuel();
        x.set(0, 3);
        x.restore();
        x.undo();
        x.pass(0);
        x.writeTruce(0, 0);
        x.callBack(0);
        x.perform();
        game(x, "0f0n");
        x.type('x');
        x.clearText();
        x.keep();
        x.edge(0, 1);
        x.field(0, 0);
        x.joined(0);
        x.reasonEdge(true, 0, 1);
        x.reasonClaim(0);
        x.ifAllCome(0);
        x.bestClaim(0);
        due("states", x.count(18), 0);
        due("undo", x.undo(), NONE);
    }

    // "There is one snapshot, empty at first."
    private static void oneSnapshot() {
        FenceDuel x = new FenceDuel();
        due("empty", x.restore(), NONE);
        x.pass(1);
        x.keep();
        x.pass(1);
        x.keep();
        x.pass(1);
        due("the last one", x.restore(), 2);
        due("again", x.restore(), 2);
    }

    // "A state is everything but the text, the history, the snapshot and the latest stop."
    private static void whatIsNoPartOfAState() {
        FenceDuel x = new FenceDuel();
        x.pass(2);
        x.keep();
        game(x, "0f0n");
        x.pass(1);
        x.clearText();
        x.type('.');
        due("undo", x.undo(), 1);
        due("the text stays", x.count(19), 1);
        due("the stop stays", x.stopped(1), UNKNOWN);
        x.undo();
        due("day", x.count(0), 0);
        due("the snapshot stays", x.restore(), 2);
        due("the text stays", x.count(19), 1);
        due("the history stays, and has one more", x.count(18), 1);
        due("the stop stays", x.stopped(0), 0);
    }

    // "A state is everything": what undo() and restore() have to bring back, each part by itself.
    private static void whatIsPartOfAState() {
        for (int way = 0; way < 2; way++) {
            FenceDuel x = swift(SHUT_TWO, "0c0;0t9;1t9;.1");
            x.writeEdge(0, false, 20, 1);
            x.set(1, 5);
            int[] before = look(x);
            x.keep();
            int acts = way == 0 ? 1 : 4;
            game(x, acts == 1 ? "1f20e;0f30e;1c47;0t1;1t1;.3" : "1f20e;.3");
            if (acts > 1) {
                x.set(0, 9);
                x.set(1, 48);
                game(x, "1c9;0g20e;.9");
            }
            if (way == 0) {
                x.undo();
            } else {
                x.restore();
            }
            same(before, look(x));
        }
    }

    // What can be told in some hundred calls; the states in the history and the text are left out.
    private static int[] look(FenceDuel x) {
        int[] seen = new int[140];
        int at = 0;
        for (int what = 0; what < 18; what++) {
            seen[at++] = x.count(what);
        }
        for (int letter = 0; letter < 8; letter++) {
            for (int what = 0; what < 10; what++) {
                seen[at++] = x.letter(letter, what);
            }
        }
        for (int what = 0; what < 4; what++) {
            seen[at++] = x.ifAllCome(what);
            seen[at++] = x.next(what % 2);
            seen[at++] = x.bestClaim(what % 2);
            seen[at++] = x.edge(20, what);
        }
        for (int field = 0; field < 12; field++) {
            seen[at++] = x.field(field, 0);
            seen[at++] = x.field(field, 1);
        }
        return seen;
    }

    private static void same(int[] before, int[] after) {
        for (int i = 0; i < before.length; i++) {
            due("what was seen as the " + i + "th", after[i], before[i]);
        }
    }

    // ---- errors

    // "A call that returns an error or NONE changes nothing (but for the latest stop of perform())."
    private static void refusedCallsChangeNothing() {
        FenceDuel x = swift(SHUT_TWO, "0c0;0t9;1t9;.1");
        x.writeEdge(0, false, 20, 1);
        x.keep();
        int states = x.count(18);
        int[] before = look(x);
        due("writeEdge", x.writeEdge(0, false, 0, 3), UNKNOWN);
        due("writeClaim", x.writeClaim(2, 0), UNKNOWN);
        due("writeTruce", x.writeTruce(0, 100), BAD_VALUE);
        due("callBack", x.callBack(0), NOT_POSSIBLE);
        due("callBack", x.callBack(7), UNKNOWN);
        due("pass", x.pass(100), BAD_VALUE);
        due("set", x.set(0, 1), NONE);
        due("set", x.set(1, 49), BAD_VALUE);
        due("perform", game(x, "0c1;.9;.9;"), -110);
        due("stop", x.stopped(0), NONE);
        due("perform", game(x, "0c1;.9;1t9;.1;0f7e"), NOT_POSSIBLE);
        due("stop", x.stopped(0), 4);
        same(before, look(x));
        due("states", x.count(18), states);
        due("snapshot", x.restore(), 2);
        x.undo();
        due("the latest act is undone as ever", x.undo(), states - 2);
        due("the letter is gone", x.letter(6, 0), UNKNOWN);
    }

    // "Where several errors can apply, the order of the @return line is the order of the checks."
    private static void errorsHaveAnOrder() {
        FenceDuel x = new FenceDuel();
        for (int i = 0; i < 60; i++) {
            x.writeTruce(0, 1);
        }
        due("no edge, no room", x.writeEdge(0, true, 0, 0), UNKNOWN);
        due("no field, no room", x.writeClaim(0, 48), UNKNOWN);
        due("no player, no days, no room", x.writeTruce(2, 0), UNKNOWN);
        due("no days, no room", x.writeTruce(1, 0), BAD_VALUE);
        due("no room", x.writeTruce(1, 1), FULL);
        due("no setting, no value", x.set(2, 0), UNKNOWN);
        due("no field, no value", x.field(48, 5), UNKNOWN);
        due("no letter, no value", x.letter(60, 10), UNKNOWN);
        due("no letter, the same", x.crossed(60, 60), UNKNOWN);
    }

    // "NONE is no error; it is returned only if no error applies."
    private static void noneComesLast() {
        FenceDuel x = new FenceDuel();
        due("stopped", x.stopped(2), BAD_VALUE);
        due("stopped", x.stopped(1), NONE);
        due("next", x.next(2), BAD_VALUE);
        due("next", x.next(1), NONE);
        due("bestClaim", x.bestClaim(2), BAD_VALUE);
        due("bestClaim", x.bestClaim(1), NONE);
        due("set", x.set(0, 10), BAD_VALUE);
        due("set", x.set(0, 3), NONE);
    }

    // "The constants"
    private static void constants() {
        due("UNKNOWN", FenceDuel.UNKNOWN, UNKNOWN);
        due("BAD_VALUE", FenceDuel.BAD_VALUE, BAD_VALUE);
        due("FULL", FenceDuel.FULL, FULL);
        due("NOT_POSSIBLE", FenceDuel.NOT_POSSIBLE, NOT_POSSIBLE);
        due("NONE", FenceDuel.NONE, NONE);
    }

    public static void main(String[] args) throws Exception {
        Map<String, Method> tests = new TreeMap<>();
        for (Method method : TermsTest.class.getDeclaredMethods()) {
            boolean isTest = method.getParameterCount() == 0 && method.getReturnType() == void.class;
            if (isTest && Modifier.isStatic(method.getModifiers())) {
                tests.put(method.getName(), method);
            }
        }
        for (Method method : tests.values()) {
            test = method.getName();
            method.invoke(null);
        }
        System.out.println(tests.size() + " tests of the terms, " + answers + " answers, " + wrong + " of them not as due");
        if (wrong != 0 || tests.isEmpty()) {
            System.exit(1);
        }
    }
}

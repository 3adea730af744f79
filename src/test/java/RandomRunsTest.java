import java.util.ArrayDeque;
import java.util.ArrayList;
import java.util.Arrays;
import java.util.Deque;
import java.util.List;
import java.util.Random;
import java.util.Set;
import java.util.TreeSet;
import java.util.regex.Matcher;
import java.util.regex.Pattern;

// Long runs of calls, drawn from seeds, against a second telling of the document that is written in
// another way: states are copied whole, days pass one by one, regions are sets, games are read by a pattern.
public final class RandomRunsTest {
    private static final int RUNS = 1500;
    private static final int CALLS = 512;

    private static final int UNKNOWN = -1;
    private static final int BAD_VALUE = -2;
    private static final int FULL = -3;
    private static final int NOT_POSSIBLE = -4;
    private static final int NONE = -5;

    private static final class Letter implements Cloneable {
        int player, kind, field = NONE, extra = NONE, written, comes, how, reason, turn = NONE, mate = NONE;

        Letter copy() {
            try {
                return (Letter) clone();
            } catch (CloneNotSupportedException e) {
                throw new IllegalStateException(e);
            }
        }
    }

    private static final class World {
        int day;
        int way = 3;
        int largest = 9;
        int[] ends = {0, 0};
        int[] owners = new int[48];
        // Both orders of an edge's fields are kept alike.
        int[][] edges = new int[48][48];
        List<Letter> letters = new ArrayList<>();
        List<List<Integer>> turns = new ArrayList<>();
        // The owners just ahead of the latest claim.
        int[] ownersAhead = new int[48];

        World() {
            Arrays.fill(owners, NONE);
        }

        World copy() {
            World c = new World();
            c.day = day;
            c.way = way;
            c.largest = largest;
            c.ends = ends.clone();
            c.owners = owners.clone();
            c.ownersAhead = ownersAhead.clone();
            for (int i = 0; i < 48; i++) {
                c.edges[i] = edges[i].clone();
            }
            for (Letter l : letters) {
                c.letters.add(l.copy());
            }
            for (List<Integer> t : turns) {
                c.turns.add(new ArrayList<>(t));
            }
            return c;
        }

        void region(int field, Set<Integer> found) {
            if (!found.add(field)) {
                return;
            }
            for (int side = 0; side < 4; side++) {
                int other = beside(field, side);
                if (other >= 0 && edges[field][other] == 0) {
                    region(other, found);
                }
            }
        }

        Set<Integer> region(int field) {
            Set<Integer> found = new TreeSet<>();
            region(field, found);
            return found;
        }

        boolean truce() {
            return day < ends[0] && day < ends[1];
        }

        int reason(int kind, int field, int side) {
            if (kind == 0) {
                return edges[field][beside(field, side)] != 0 ? 1 : 0;
            }
            if (kind == 1) {
                int has = edges[field][beside(field, side)];
                return has == 0 || has == 3 ? 2 : truce() ? 3 : 0;
            }
            if (kind == 2) {
                return owners[field] != NONE ? 4 : region(field).size() > largest ? 5 : 0;
            }
            return 0;
        }

        void come(int number) {
            Letter l = letters.get(number);
            Letter first = null;
            List<Integer> latest = turns.isEmpty() ? null : turns.get(turns.size() - 1);
            if (latest != null && latest.size() == 1) {
                Letter alone = letters.get(latest.get(0));
                if (alone.player != l.player && alone.written < l.comes && l.written < alone.comes) {
                    first = alone;
                    l.mate = latest.get(0);
                    alone.mate = number;
                }
            }
            if (first == null) {
                latest = new ArrayList<>();
                turns.add(latest);
            }
            latest.add(number);
            l.turn = turns.size();
            boolean alike = first != null && first.kind == l.kind && first.how == 1;
            if (alike && l.kind == 0) {
                int a = first.field;
                int b = beside(a, first.extra);
                int c = l.field;
                int d = beside(c, l.extra);
                if ((a == c && b == d || a == d && b == c) && edges[a][b] == first.player + 1) {
                    edges[a][b] = 3;
                    edges[b][a] = 3;
                    l.how = 1;
                    return;
                }
            }
            if (alike && l.kind == 2 && ownersAhead[l.field] == NONE && owners[l.field] == first.player) {
                owners = ownersAhead.clone();
                l.how = 2;
                l.reason = 6;
                return;
            }
            l.reason = reason(l.kind, l.field, l.extra);
            l.how = l.reason == 0 ? 1 : 2;
            if (l.how == 2) {
                return;
            }
            if (l.kind == 3) {
                ends[l.player] = day + l.extra;
            } else if (l.kind == 2) {
                ownersAhead = owners.clone();
                for (int f : region(l.field)) {
                    if (owners[f] == NONE) {
                        owners[f] = l.player;
                    }
                }
            } else {
                int other = beside(l.field, l.extra);
                int has = l.kind == 0 ? l.player + 1 : 0;
                edges[l.field][other] = has;
                edges[other][l.field] = has;
            }
        }

        int dayBegins() {
            day++;
            int came = 0;
            for (int i = 0; i < letters.size(); i++) {
                if (letters.get(i).how == 0 && letters.get(i).comes == day) {
                    come(i);
                    came++;
                }
            }
            return came;
        }

        int write(int player, int kind, int field, int extra) {
            if (letters.size() == 60) {
                return FULL;
            }
            Letter l = new Letter();
            l.player = player;
            l.kind = kind;
            l.field = field;
            l.extra = extra;
            l.written = day;
            l.comes = day + way;
            letters.add(l);
            return letters.size() - 1;
        }

        int having(int how) {
            int n = 0;
            for (Letter l : letters) {
                n += l.how == how ? 1 : 0;
            }
            return n;
        }

        int owned(int player) {
            int n = 0;
            for (int o : owners) {
                n += o == player ? 1 : 0;
            }
            return n;
        }

        int edgesWith(int what) {
            int n = 0;
            for (int a = 0; a < 48; a++) {
                for (int b = a + 1; b < 48; b++) {
                    n += edges[a][b] == what ? 1 : 0;
                }
            }
            return n;
        }

        int soonest() {
            int found = NONE;
            for (int i = letters.size() - 1; i >= 0; i--) {
                if (letters.get(i).how == 0 && (found == NONE || letters.get(i).comes <= letters.get(found).comes)) {
                    found = i;
                }
            }
            return found;
        }
    }

    private static int beside(int field, int side) {
        if (field < 0 || field > 47 || side < 0 || side > 3) {
            return -1;
        }
        int row = field / 8 + (side == 0 ? -1 : side == 2 ? 1 : 0);
        int column = field % 8 + (side == 1 ? 1 : side == 3 ? -1 : 0);
        return row < 0 || row > 5 || column < 0 || column > 7 ? -1 : row * 8 + column;
    }

    private static final String FIELD = "(?:[0-9]|[1-3][0-9]|4[0-7])";
    private static final String DAYS = "[1-9][0-9]?";
    private static final String THING = "(?:\\." + DAYS + "|[01](?:[fg]" + FIELD + "[nesw]|c" + FIELD + "|t" + DAYS + "))";
    private static final Pattern GAME = Pattern.compile(THING + "(?:;" + THING + ")*");

    // Calls are told to it as a name and numbers, as the drawing makes them.
    private static final class Plain {
        World now = new World();
        World snapshot;
        Deque<World> history = new ArrayDeque<>();
        String text = "";
        int[] stop = {NONE, NONE};

        int answer(String call, int... a) {
            World before = now.copy();
            int answer = act(call, a);
            if (answer < 0) {
                now = before;
            } else {
                history.addLast(before);
                if (history.size() > 4) {
                    history.removeFirst();
                }
            }
            return answer;
        }

        private int act(String call, int[] a) {
            switch (call) {
                case "writeEdge": return writeEdge(a[0], a[1] == 1, a[2], a[3]);
                case "writeClaim": return a[0] < 0 || a[0] > 1 || a[1] < 0 || a[1] > 47 ? UNKNOWN : now.write(a[0], 2, a[1], NONE);
                case "writeTruce":
                    if (a[0] < 0 || a[0] > 1) {
                        return UNKNOWN;
                    }
                    return a[1] < 1 || a[1] > 99 ? BAD_VALUE : now.write(a[0], 3, NONE, a[1]);
                case "callBack": return callBack(a[0]);
                case "pass": return pass(a[0]);
                case "set": return set(a[0], a[1]);
                case "perform": return perform();
                case "restore":
                    if (snapshot == null) {
                        return NONE;
                    }
                    now = snapshot.copy();
                    return now.day;
                default: throw new IllegalArgumentException(call);
            }
        }

        private int writeEdge(int player, boolean opens, int field, int side) {
            if (player < 0 || player > 1 || beside(field, side) < 0) {
                return UNKNOWN;
            }
            return now.write(player, opens ? 1 : 0, field, side);
        }

        private int callBack(int letter) {
            if (letter < 0 || letter >= now.letters.size()) {
                return UNKNOWN;
            }
            Letter l = now.letters.get(letter);
            if (l.how != 0) {
                return NOT_POSSIBLE;
            }
            l.how = 3;
            return l.comes - now.day;
        }

        private int pass(int days) {
            if (days < 1 || days > 99) {
                return BAD_VALUE;
            }
            if (now.day + days > 9999) {
                return FULL;
            }
            int came = 0;
            for (int i = 0; i < days; i++) {
                came += now.dayBegins();
            }
            return came;
        }

        private int set(int which, int value) {
            if (which != 0 && which != 1) {
                return UNKNOWN;
            }
            if (value < 1 || value > (which == 0 ? 9 : 48)) {
                return BAD_VALUE;
            }
            int was = which == 0 ? now.way : now.largest;
            if (was == value) {
                return NONE;
            }
            if (which == 0) {
                now.way = value;
            } else {
                now.largest = value;
            }
            return was;
        }

        private int fault() {
            for (int end = 0; end <= text.length(); end++) {
                Matcher m = GAME.matcher(text.substring(0, end));
                boolean whole = m.matches();
                if (end == text.length()) {
                    if (whole) {
                        return -1;
                    }
                    return m.hitEnd() ? end : end - 1;
                }
                if (!whole && !m.hitEnd()) {
                    return end - 1;
                }
            }
            return -1;
        }

        private int perform() {
            int fault = fault();
            if (fault >= 0) {
                return -100 - fault;
            }
            String[] things = text.split(";");
            for (int i = 0; i < things.length; i++) {
                int answer = perform(things[i]);
                if (answer < 0) {
                    stop = new int[] {i, answer};
                    return NOT_POSSIBLE;
                }
            }
            return things.length;
        }

        private int perform(String thing) {
            if (thing.charAt(0) == '.') {
                return pass(Integer.parseInt(thing.substring(1)));
            }
            int player = thing.charAt(0) - '0';
            int last = thing.length() - 1;
            switch (thing.charAt(1)) {
                case 'c': return act("writeClaim", new int[] {player, Integer.parseInt(thing.substring(2))});
                case 't': return act("writeTruce", new int[] {player, Integer.parseInt(thing.substring(2))});
                default:
                    int side = "nesw".indexOf(thing.charAt(last));
                    return writeEdge(player, thing.charAt(1) == 'g', Integer.parseInt(thing.substring(2, last)), side);
            }
        }

        int undo() {
            if (history.isEmpty()) {
                return NONE;
            }
            now = history.removeLast();
            return history.size();
        }

        int keep() {
            snapshot = now.copy();
            return now.day;
        }

        int field(int field, int what) {
            if (field < 0 || field > 47) {
                return UNKNOWN;
            }
            Set<Integer> region = now.region(field);
            int n = 0;
            switch (what) {
                case 0: return now.owners[field];
                case 1: return region.size();
                case 2:
                    for (int f : region) {
                        n += now.owners[f] == NONE ? 1 : 0;
                    }
                    return n;
                case 3: return region.iterator().next();
                case 4:
                    for (int side = 0; side < 4; side++) {
                        int other = beside(field, side);
                        n += other >= 0 && now.edges[field][other] != 0 ? 1 : 0;
                    }
                    return n;
                default: return BAD_VALUE;
            }
        }

        int letter(int letter, int what) {
            if (letter < 0 || letter >= now.letters.size()) {
                return UNKNOWN;
            }
            Letter l = now.letters.get(letter);
            int[] facts = {l.player, l.kind, l.field, l.extra, l.written, l.comes, l.how, l.reason, l.turn, l.mate};
            return what < 0 || what > 9 ? BAD_VALUE : facts[what];
        }

        int crossed(int letter, int other) {
            int all = now.letters.size();
            if (letter < 0 || letter >= all || other < 0 || other >= all) {
                return UNKNOWN;
            }
            if (letter == other) {
                return BAD_VALUE;
            }
            Letter a = now.letters.get(letter);
            Letter b = now.letters.get(other);
            return a.player != b.player && a.how != 3 && b.how != 3 && a.written < b.comes && b.written < a.comes ? 1 : 0;
        }

        int next(int what) {
            if (what != 0 && what != 1) {
                return BAD_VALUE;
            }
            int found = now.soonest();
            return found == NONE ? NONE : what == 0 ? found : now.letters.get(found).comes - now.day;
        }

        int ifAllCome(int what) {
            World then = now.copy();
            while (then.having(0) > 0) {
                then.dayBegins();
            }
            switch (what) {
                case 0: return then.owned(0);
                case 1: return then.owned(1);
                case 2: return then.edgesWith(3);
                case 3: return then.having(2);
                default: return BAD_VALUE;
            }
        }

        int bestClaim(int what) {
            if (what != 0 && what != 1) {
                return BAD_VALUE;
            }
            int[] best = {NONE, NONE};
            for (int f = 0; f < 48; f++) {
                if (now.reason(2, f, 0) == 0 && field(f, 2) > best[1]) {
                    best = new int[] {f, field(f, 2)};
                }
            }
            return best[what];
        }

        int count(int what) {
            switch (what) {
                case 0: return now.day;
                case 1: return now.letters.size();
                case 2: return now.having(0);
                case 3: return now.having(1);
                case 4: return now.having(2);
                case 5: return now.turns.size();
                case 6: return (int) now.turns.stream().filter(t -> t.size() == 2).count();
                case 7: return now.owned(0);
                case 8: return now.owned(1);
                case 9: return now.edgesWith(1);
                case 10: return now.edgesWith(2);
                case 11: return now.edgesWith(3);
                case 12:
                    Set<Integer> lowest = new TreeSet<>();
                    for (int f = 0; f < 48; f++) {
                        lowest.add(field(f, 3));
                    }
                    return lowest.size();
                case 13: return now.truce() ? 1 : 0;
                case 14: return now.ends[0];
                case 15: return now.ends[1];
                case 16: return now.way;
                case 17: return now.largest;
                case 18: return history.size();
                case 19: return text.length();
                default: return BAD_VALUE;
            }
        }
    }

    private final Random random;
    private final FenceDuel duel = new FenceDuel();
    private final Plain plain = new Plain();
    private final StringBuilder log = new StringBuilder();
    private final int run;
    private final int columns;
    private final int rows;
    private final int longestPass;
    private int calls;
    private boolean wrong;
    private static int all;

    private RandomRunsTest(int run) {
        this.run = run;
        random = new Random(run);
        columns = 2 + random.nextInt(7);
        rows = 1 + random.nextInt(6);
        longestPass = random.nextInt(4) == 0 ? 99 : 1 + random.nextInt(5);
    }

    // Mostly in the range, now and then at its edge or far off.
    private int number(int least, int most) {
        switch (random.nextInt(30)) {
            case 0: return least - 1;
            case 1: return most + 1;
            case 2: return random.nextInt();
            default: return least + random.nextInt(most - least + 1);
        }
    }

    private int aField() {
        return random.nextInt(25) == 0 ? number(0, 47) : random.nextInt(rows) * 8 + random.nextInt(columns);
    }

    private int aLetter() {
        return number(0, Math.max(0, plain.now.letters.size() - 1));
    }

    private void due(String call, int got, int want, int... a) {
        all++;
        calls++;
        log.append(call).append(Arrays.toString(a)).append(" -> ").append(want).append('\n');
        if (got != want) {
            wrong = true;
            System.out.println("run " + run + ", call " + calls + ": " + call + Arrays.toString(a) + " answered " + got + ", due is " + want);
        }
    }

    private String aThing() {
        int player = random.nextInt(2);
        int field = random.nextInt(rows) * 8 + random.nextInt(columns);
        switch (random.nextInt(6)) {
            case 0: return "." + (1 + random.nextInt(longestPass));
            case 1: return player + "c" + field;
            case 2: return player + "t" + (1 + random.nextInt(12));
            case 3: return player + "g" + field + "nesw".charAt(random.nextInt(4));
            default: return player + "f" + field + "nesw".charAt(random.nextInt(4));
        }
    }

    private void typeAText() {
        due("clearText", duel.clearText(), plain.text.length());
        plain.text = "";
        StringBuilder text = new StringBuilder(aThing());
        int more = random.nextInt(5);
        for (int i = 0; i < more; i++) {
            text.append(';').append(aThing());
        }
        if (random.nextInt(3) == 0) {
            int place = random.nextInt(text.length());
            text.setCharAt(place, ".;0123456789fgctnesw x".charAt(random.nextInt(22)));
        }
        if (random.nextInt(6) == 0) {
            text.setLength(random.nextInt(text.length() + 1));
        }
        for (int i = 0; i < text.length(); i++) {
            typeOne(text.charAt(i));
        }
    }

    private void typeOne(char c) {
        int want = plain.text.length() == 60 ? FULL : plain.text.length() + 1;
        due("type", duel.type(c), want, c);
        plain.text = want == FULL ? plain.text : plain.text + c;
    }

    private void act() {
        int a = number(0, 1);
        int b;
        int c;
        switch (random.nextInt(20)) {
            case 0: case 1: case 2: case 3:
                b = aField();
                c = number(0, 3);
                due("writeEdge", duel.writeEdge(a, false, b, c), plain.answer("writeEdge", a, 0, b, c), a, 0, b, c);
                break;
            case 4:
                b = aField();
                c = number(0, 3);
                due("writeEdge", duel.writeEdge(a, true, b, c), plain.answer("writeEdge", a, 1, b, c), a, 1, b, c);
                break;
            case 5: case 6: case 7:
                b = aField();
                due("writeClaim", duel.writeClaim(a, b), plain.answer("writeClaim", a, b), a, b);
                break;
            case 8:
                b = random.nextBoolean() ? number(1, 99) : 1 + random.nextInt(8);
                due("writeTruce", duel.writeTruce(a, b), plain.answer("writeTruce", a, b), a, b);
                break;
            case 9:
                b = aLetter();
                due("callBack", duel.callBack(b), plain.answer("callBack", b), b);
                break;
            case 10: case 11: case 12: case 13:
                b = number(1, longestPass);
                due("pass", duel.pass(b), plain.answer("pass", b), b);
                break;
            case 14: case 15:
                b = number(1, a == 0 ? 9 : 48);
                due("set", duel.set(a, b), plain.answer("set", a, b), a, b);
                break;
            case 16:
                if (random.nextInt(3) == 0) {
                    typeAText();
                }
                due("perform", duel.perform(), plain.answer("perform"));
                break;
            case 17:
                due("undo", duel.undo(), plain.undo());
                break;
            case 18:
                due("keep", duel.keep(), plain.keep());
                break;
            default:
                if (random.nextInt(3) == 0) {
                    due("restore", duel.restore(), plain.answer("restore"));
                }
                break;
        }
    }

    private void tell() {
        int a = aField();
        int b = number(0, 3);
        int c = random.nextInt(2);
        int other = beside(a, b);
        switch (random.nextInt(12)) {
            case 0:
                due("edge", duel.edge(a, b), other < 0 ? UNKNOWN : plain.now.edges[a][other], a, b);
                break;
            case 1:
                b = number(0, 4);
                due("field", duel.field(a, b), plain.field(a, b), a, b);
                break;
            case 2:
                due("joined", duel.joined(a), plain.field(a, 1), a);
                break;
            case 3: case 4:
                a = aLetter();
                b = number(0, 9);
                due("letter", duel.letter(a, b), plain.letter(a, b), a, b);
                break;
            case 5:
                a = aLetter();
                b = aLetter();
                due("crossed", duel.crossed(a, b), plain.crossed(a, b), a, b);
                break;
            case 6:
                due("reasonEdge", duel.reasonEdge(c == 1, a, b), other < 0 ? UNKNOWN : plain.now.reason(c, a, b), c, a, b);
                break;
            case 7:
                due("reasonClaim", duel.reasonClaim(a), a < 0 || a > 47 ? UNKNOWN : plain.now.reason(2, a, 0), a);
                break;
            case 8:
                b = number(0, 1);
                due("next", duel.next(b), plain.next(b), b);
                break;
            case 9:
                b = number(0, 3);
                due("ifAllCome", duel.ifAllCome(b), plain.ifAllCome(b), b);
                break;
            case 10:
                b = number(0, 1);
                due("bestClaim", duel.bestClaim(b), plain.bestClaim(b), b);
                break;
            default:
                b = number(0, 1);
                due("stopped", duel.stopped(b), b < 0 || b > 1 ? BAD_VALUE : plain.stop[b], b);
                break;
        }
        b = number(0, 19);
        due("count", duel.count(b), plain.count(b), b);
    }

    // At the end of a run nothing that can be told may differ.
    private void tellAll() {
        for (int f = 0; f < 48; f++) {
            for (int i = 0; i < 5; i++) {
                due("field", duel.field(f, i), plain.field(f, i), f, i);
            }
            for (int s = 0; s < 4; s++) {
                due("edge", duel.edge(f, s), beside(f, s) < 0 ? UNKNOWN : plain.now.edges[f][beside(f, s)], f, s);
            }
        }
        for (int l = 0; l < 60; l++) {
            for (int i = 0; i < 10; i++) {
                due("letter", duel.letter(l, i), plain.letter(l, i), l, i);
            }
        }
        for (int i = 0; i < 20; i++) {
            due("count", duel.count(i), plain.count(i), i);
        }
    }

    private boolean goesWell() {
        while (calls < CALLS && !wrong) {
            act();
            if (random.nextBoolean()) {
                tell();
            }
        }
        if (!wrong) {
            tellAll();
        }
        if (wrong) {
            System.out.println(log);
        }
        return !wrong;
    }

    public static void main(String[] args) {
        for (int run = 0; run < RUNS; run++) {
            if (!new RandomRunsTest(run).goesWell()) {
                System.exit(1);
            }
        }
        System.out.println(RUNS + " runs, " + all + " answers, all as due");
    }
}

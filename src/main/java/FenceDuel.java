import java.util.Arrays;

/**
 * A play-by-post duel of fences with letters that cross. The document ../shared/DOC.md tells what
 * each call promises.
 *
 * <p>All rows are made once, with the object: calls make no objects, however many there are.
 */
public final class FenceDuel {
    public static final int UNKNOWN = -1;
    public static final int BAD_VALUE = -2;
    public static final int FULL = -3;
    public static final int NOT_POSSIBLE = -4;
    public static final int NONE = -5;

    private static final int PLAYERS = 2;
    private static final int COLUMNS = 8;
    private static final int FIELDS = 48;
    private static final int SIDES = 4;
    private static final int EDGES = 82;
    private static final int EAST = 1;
    private static final int SOUTH = 2;

    private static final int MOST_LETTERS = 60;
    private static final int MOST_DAYS = 99;
    private static final int LAST_DAY = 9999;
    private static final int MOST_CHARACTERS = 60;
    private static final int MOST_STATES = 4;
    private static final int FAULT_AT_START = -100;

    // The settings, and their ranges, each from 1.
    private static final int WAY = 0;
    private static final int LARGEST_CLAIM = 1;
    private static final int SETTINGS = 2;
    private static final int LONGEST_WAY = 9;

    // The kinds of letters; a game has days that pass besides.
    private static final int FENCE = 0;
    private static final int GAP = 1;
    private static final int CLAIM = 2;
    private static final int TRUCE = 3;
    private static final int DAYS = 4;

    // What an edge has; a fence is told by its player and 1.
    private static final int NOTHING = 0;
    private static final int HEDGE = 3;

    // The facts of a letter, numbered as letter() tells them.
    private static final int PLAYER = 0;
    private static final int KIND = 1;
    private static final int FIELD = 2;
    private static final int SIDE_OR_DAYS = 3;
    private static final int WRITTEN = 4;
    private static final int COMES = 5;
    private static final int HOW = 6;
    private static final int REASON = 7;
    private static final int TURN = 8;
    private static final int MATE = 9;
    private static final int FACTS = 10;

    // How a letter is.
    private static final int ON_ITS_WAY = 0;
    private static final int DONE = 1;
    private static final int REFUSED = 2;
    private static final int CALLED_BACK = 3;

    // The reasons for which a letter is refused.
    private static final int NO_REASON = 0;
    private static final int EDGE_HAS_SOMETHING = 1;
    private static final int NO_FENCE_TO_OPEN = 2;
    private static final int TRUCE_HOLDS = 3;
    private static final int FIELD_IS_TAKEN = 4;
    private static final int REGION_TOO_LARGE = 5;
    private static final int CLAIMS_CROSSED = 6;

    private final Ground ground = new Ground();
    private final Regions regions = new Regions(ground);
    private final Post post = new Post(ground, regions);
    private final Game game = new Game();
    private final History history = new History();
    private final State now = new State();
    private final State before = new State();
    private final State trial = new State();
    private final State snapshot = new State();
    private boolean hasSnapshot;
    private boolean wasStopped;
    private int stopNumber;
    private int stopError;

    public FenceDuel() {
    }

    // ---- letters, days

    public int writeEdge(int player, boolean opens, int field, int side) {
        before.takeFrom(now);
        return recordUnlessError(addEdgeLetter(player, opens ? GAP : FENCE, field, side));
    }

    public int writeClaim(int player, int field) {
        before.takeFrom(now);
        return recordUnlessError(addClaim(player, field));
    }

    public int writeTruce(int player, int days) {
        before.takeFrom(now);
        return recordUnlessError(addTruce(player, days));
    }

    public int callBack(int letter) {
        if (!now.hasLetter(letter)) {
            return UNKNOWN;
        }
        if (now.told(letter, HOW) != ON_ITS_WAY) {
            return NOT_POSSIBLE;
        }
        history.add(now);
        now.mark(letter, HOW, CALLED_BACK);
        return now.told(letter, COMES) - now.day;
    }

    public int pass(int days) {
        before.takeFrom(now);
        return recordUnlessError(letDaysPass(days));
    }

    public int set(int which, int value) {
        if (which < 0 || which >= SETTINGS) {
            return UNKNOWN;
        }
        int most = which == WAY ? LONGEST_WAY : FIELDS;
        if (value < 1 || value > most) {
            return BAD_VALUE;
        }
        int previous = now.settings[which];
        if (previous == value) {
            return NONE;
        }
        history.add(now);
        now.settings[which] = value;
        return previous;
    }

    // ---- texts

    public int type(char character) {
        return game.append(character);
    }

    public int clearText() {
        return game.empty();
    }

    public int perform() {
        int fault = game.findFault();
        if (fault != NONE) {
            return FAULT_AT_START - fault;
        }
        before.takeFrom(now);
        for (int thing = 0; thing < game.things; thing++) {
            boolean passes = game.part(game.kinds, thing) == DAYS;
            int answer = passes ? letDaysPass(game.part(game.numbers, thing)) : addLetterOfGame(thing);
            if (answer < 0) {
                now.takeFrom(before);
                wasStopped = true;
                stopNumber = thing;
                stopError = answer;
                return NOT_POSSIBLE;
            }
        }
        return recordUnlessError(game.things);
    }

    public int stopped(int what) {
        if (what < 0 || what > 1) {
            return BAD_VALUE;
        }
        if (!wasStopped) {
            return NONE;
        }
        return what == 0 ? stopNumber : stopError;
    }

    // ---- history

    public int undo() {
        return history.takeBack(now);
    }

    public int keep() {
        snapshot.takeFrom(now);
        hasSnapshot = true;
        return now.day;
    }

    public int restore() {
        if (!hasSnapshot) {
            return NONE;
        }
        history.add(now);
        now.takeFrom(snapshot);
        return now.day;
    }

    // ---- what is told

    public int edge(int field, int side) {
        int edge = ground.edgeNumber(field, side);
        return isEdge(edge) ? now.onEdge(edge) : UNKNOWN;
    }

    public int field(int field, int what) {
        if (!isField(field)) {
            return UNKNOWN;
        }
        regions.survey(now);
        switch (what) {
            case 0: return now.ownerOf(field);
            case 1: return regions.sizeAround(field);
            case 2: return regions.freeAround(field);
            case 3: return regions.lowestAround(field);
            case 4: return edgesWithSomething(field);
            default: return BAD_VALUE;
        }
    }

    public int joined(int field) {
        return isField(field) ? regions.sizeByJoining(now, field) : UNKNOWN;
    }

    public int letter(int letter, int what) {
        if (!now.hasLetter(letter)) {
            return UNKNOWN;
        }
        if (what < 0 || what >= FACTS) {
            return BAD_VALUE;
        }
        return now.told(letter, what);
    }

    public int crossed(int letter, int other) {
        if (!now.hasLetter(letter) || !now.hasLetter(other)) {
            return UNKNOWN;
        }
        if (letter == other) {
            return BAD_VALUE;
        }
        return now.haveCrossed(letter, other) ? 1 : 0;
    }

    public int reasonEdge(boolean opens, int field, int side) {
        int edge = ground.edgeNumber(field, side);
        if (!isEdge(edge)) {
            return UNKNOWN;
        }
        return opens ? post.reasonAgainstGap(now, edge) : post.reasonAgainstFence(now, edge);
    }

    public int reasonClaim(int field) {
        if (!isField(field)) {
            return UNKNOWN;
        }
        regions.survey(now);
        return post.reasonAgainstClaim(now, field);
    }

    public int next(int what) {
        if (what < 0 || what > 1) {
            return BAD_VALUE;
        }
        int letter = now.soonest();
        if (letter == NONE) {
            return NONE;
        }
        return what == 0 ? letter : now.told(letter, COMES) - now.day;
    }

    public int ifAllCome(int what) {
        if (what < 0 || what > 3) {
            return BAD_VALUE;
        }
        trial.takeFrom(now);
        // A letter may be due beyond the last day; here it comes all the same.
        post.deliver(trial, LAST_DAY + LONGEST_WAY);
        switch (what) {
            case 2: return trial.edgesWith(HEDGE);
            case 3: return trial.lettersThatAre(REFUSED);
            default: return trial.fieldsOf(what);
        }
    }

    public int bestClaim(int what) {
        if (what < 0 || what > 1) {
            return BAD_VALUE;
        }
        regions.survey(now);
        int best = NONE;
        int most = 0;
        for (int field = 0; field < FIELDS; field++) {
            int takes = regions.freeAround(field);
            if (takes > most && post.reasonAgainstClaim(now, field) == NO_REASON) {
                best = field;
                most = takes;
            }
        }
        if (best == NONE) {
            return NONE;
        }
        return what == 0 ? best : most;
    }

    public int count(int what) {
        switch (what) {
            case 0: return now.day;
            case 1: return now.written;
            case 2: return now.lettersThatAre(ON_ITS_WAY);
            case 3: return now.lettersThatAre(DONE);
            case 4: return now.lettersThatAre(REFUSED);
            case 5: return now.turns;
            case 6: return now.turnsOfTwo();
            case 7: return now.fieldsOf(0);
            case 8: return now.fieldsOf(1);
            case 9: return now.edgesWith(fenceOf(0));
            case 10: return now.edgesWith(fenceOf(1));
            case 11: return now.edgesWith(HEDGE);
            case 12: return regions.survey(now);
            case 13: return now.hasTruce() ? 1 : 0;
            case 14: return now.truceEnds[0];
            case 15: return now.truceEnds[1];
            case 16: return now.settings[WAY];
            case 17: return now.settings[LARGEST_CLAIM];
            case 18: return history.size;
            case 19: return game.length;
            default: return BAD_VALUE;
        }
    }

    // ---- the parts of acts, which perform() uses, too; they record nothing

    private int addEdgeLetter(int player, int kind, int field, int side) {
        if (!isPlayer(player) || !isEdge(ground.edgeNumber(field, side))) {
            return UNKNOWN;
        }
        return now.addLetter(player, kind, field, side);
    }

    private int addClaim(int player, int field) {
        if (!isPlayer(player) || !isField(field)) {
            return UNKNOWN;
        }
        return now.addLetter(player, CLAIM, field, NONE);
    }

    private int addTruce(int player, int days) {
        if (!isPlayer(player)) {
            return UNKNOWN;
        }
        if (days < 1 || days > MOST_DAYS) {
            return BAD_VALUE;
        }
        return now.addLetter(player, TRUCE, NONE, days);
    }

    private int addLetterOfGame(int thing) {
        int kind = game.part(game.kinds, thing);
        int player = game.part(game.players, thing);
        int number = game.part(game.numbers, thing);
        switch (kind) {
            case CLAIM: return addClaim(player, number);
            case TRUCE: return addTruce(player, number);
            default: return addEdgeLetter(player, kind, number, game.part(game.sides, thing));
        }
    }

    private int letDaysPass(int days) {
        if (days < 1 || days > MOST_DAYS) {
            return BAD_VALUE;
        }
        if (now.day + days > LAST_DAY) {
            return FULL;
        }
        return post.deliver(now, now.day + days);
    }

    /** An act has put the state aside ahead of its change; only now is it known whether that counts. */
    private int recordUnlessError(int answer) {
        if (answer >= 0) {
            history.add(before);
        }
        return answer;
    }

    private int edgesWithSomething(int field) {
        int some = 0;
        for (int side = 0; side < SIDES; side++) {
            int edge = ground.edgeNumber(field, side);
            if (isEdge(edge) && now.onEdge(edge) != NOTHING) {
                some++;
            }
        }
        return some;
    }

    private static boolean isPlayer(int player) {
        return player >= 0 && player < PLAYERS;
    }

    private static boolean isField(int field) {
        return field >= 0 && field < FIELDS;
    }

    private static boolean isEdge(int edge) {
        return edge >= 0 && edge < EDGES;
    }

    private static int fenceOf(int player) {
        return player + 1;
    }

    /**
     * Where the fields and the edges lie. Each edge has one number, to which both of its fields
     * lead, so that it does not matter from which side a letter tells it.
     */
    private static final class Ground {
        /** The field beside a field, by field and side; NONE at the rim. */
        final int[] beside = new int[FIELDS * SIDES];
        /** The edge of a field, by field and side; NONE at the rim. */
        final int[] edgeAt = new int[FIELDS * SIDES];
        /** Both fields of each edge. */
        final int[] nearField = new int[EDGES];
        final int[] farField = new int[EDGES];

        Ground() {
            Arrays.fill(beside, NONE);
            Arrays.fill(edgeAt, NONE);
            int edge = 0;
            for (int field = 0; field < FIELDS; field++) {
                if (field % COLUMNS < COLUMNS - 1) {
                    layEdge(edge, field, EAST, field + 1);
                    edge++;
                }
                if (field + COLUMNS < FIELDS) {
                    layEdge(edge, field, SOUTH, field + COLUMNS);
                    edge++;
                }
            }
        }

        private void layEdge(int edge, int field, int side, int other) {
            boolean isSide = side >= 0 && side < SIDES;
            if (!isEdge(edge) || !isField(field) || !isSide || !isField(other)) {
                return;
            }
            int there = field * SIDES + side;
            int back = other * SIDES + (side + 2) % SIDES;
            beside[there] = other;
            beside[back] = field;
            edgeAt[there] = edge;
            edgeAt[back] = edge;
            nearField[edge] = field;
            farField[edge] = other;
        }

        /** The number of an edge; NONE if there is no such field or side, or the rim is there. */
        int edgeNumber(int field, int side) {
            if (!isField(field) || side < 0 || side >= SIDES) {
                return NONE;
            }
            return edgeAt[field * SIDES + side];
        }
    }

    /** All that undo() and restore() bring back. */
    private static final class State {
        int day;
        int written;
        int turns;
        /** The letter that is the only one of the latest turn yet; NONE if that has two, or none was. */
        int alone = NONE;
        final int[] settings = {3, 9};
        final int[] truceEnds = new int[PLAYERS];
        final int[] onEdges = new int[EDGES];
        /**
         * The claim by which each field was taken, NONE for nobody's fields: it tells the owner, and
         * what a claim that crossed letters make void has to give back.
         */
        final int[] takers = new int[FIELDS];
        final int[] facts = new int[MOST_LETTERS * FACTS];

        State() {
            Arrays.fill(takers, NONE);
        }

        void takeFrom(State other) {
            day = other.day;
            written = other.written;
            turns = other.turns;
            alone = other.alone;
            System.arraycopy(other.settings, 0, settings, 0, SETTINGS);
            System.arraycopy(other.truceEnds, 0, truceEnds, 0, PLAYERS);
            System.arraycopy(other.onEdges, 0, onEdges, 0, EDGES);
            System.arraycopy(other.takers, 0, takers, 0, FIELDS);
            System.arraycopy(other.facts, 0, facts, 0, MOST_LETTERS * FACTS);
        }

        boolean hasLetter(int letter) {
            return letter >= 0 && letter < written && letter < MOST_LETTERS;
        }

        int told(int letter, int fact) {
            if (!hasLetter(letter) || fact < 0 || fact >= FACTS) {
                return NONE;
            }
            return facts[letter * FACTS + fact];
        }

        void mark(int letter, int fact, int value) {
            if (hasLetter(letter) && fact >= 0 && fact < FACTS) {
                facts[letter * FACTS + fact] = value;
            }
        }

        int addLetter(int player, int kind, int field, int sideOrDays) {
            if (written >= MOST_LETTERS) {
                return FULL;
            }
            int letter = written;
            written++;
            mark(letter, PLAYER, player);
            mark(letter, KIND, kind);
            mark(letter, FIELD, field);
            mark(letter, SIDE_OR_DAYS, sideOrDays);
            mark(letter, WRITTEN, day);
            mark(letter, COMES, day + settings[WAY]);
            mark(letter, HOW, ON_ITS_WAY);
            mark(letter, REASON, NO_REASON);
            mark(letter, TURN, NONE);
            mark(letter, MATE, NONE);
            return letter;
        }

        /** The letter that comes next, of several the lowest; NONE if none is on its way. */
        int soonest() {
            int found = NONE;
            for (int letter = 0; letter < written; letter++) {
                if (told(letter, HOW) != ON_ITS_WAY) {
                    continue;
                }
                if (found == NONE || told(letter, COMES) < told(found, COMES)) {
                    found = letter;
                }
            }
            return found;
        }

        boolean haveCrossed(int letter, int other) {
            if (told(letter, PLAYER) == told(other, PLAYER)) {
                return false;
            }
            if (told(letter, HOW) == CALLED_BACK || told(other, HOW) == CALLED_BACK) {
                return false;
            }
            return told(letter, WRITTEN) < told(other, COMES) && told(other, WRITTEN) < told(letter, COMES);
        }

        /** Puts a letter that comes into its turn; tells the first letter of that turn, NONE if it is it itself. */
        int enterTurn(int letter) {
            int first = alone;
            if (first != NONE && haveCrossed(first, letter)) {
                mark(first, MATE, letter);
                mark(letter, MATE, first);
                alone = NONE;
            } else {
                first = NONE;
                turns++;
                alone = letter;
            }
            mark(letter, TURN, turns);
            return first;
        }

        boolean wasDone(int letter, int kind) {
            return told(letter, HOW) == DONE && told(letter, KIND) == kind;
        }

        int onEdge(int edge) {
            return isEdge(edge) ? onEdges[edge] : NOTHING;
        }

        void putOnEdge(int edge, int something) {
            if (isEdge(edge)) {
                onEdges[edge] = something;
            }
        }

        int takerOf(int field) {
            return isField(field) ? takers[field] : NONE;
        }

        int ownerOf(int field) {
            return told(takerOf(field), PLAYER);
        }

        void giveBackFieldsOf(int claim) {
            for (int field = 0; field < FIELDS; field++) {
                if (takers[field] == claim) {
                    takers[field] = NONE;
                }
            }
        }

        boolean hasTruce() {
            return day < truceEnds[0] && day < truceEnds[1];
        }

        int lettersThatAre(int how) {
            int some = 0;
            for (int letter = 0; letter < written; letter++) {
                if (told(letter, HOW) == how) {
                    some++;
                }
            }
            return some;
        }

        int turnsOfTwo() {
            int letters = 0;
            for (int letter = 0; letter < written; letter++) {
                if (told(letter, MATE) != NONE) {
                    letters++;
                }
            }
            return letters / 2;
        }

        int fieldsOf(int player) {
            int some = 0;
            for (int field = 0; field < FIELDS; field++) {
                if (ownerOf(field) == player) {
                    some++;
                }
            }
            return some;
        }

        int edgesWith(int something) {
            int some = 0;
            for (int edge = 0; edge < EDGES; edge++) {
                if (onEdges[edge] == something) {
                    some++;
                }
            }
            return some;
        }
    }

    /** The regions of a state. What survey() found is good until the state changes. */
    private static final class Regions {
        private final Ground ground;
        // Of each field's region: its lowest field (NONE where survey() has not been yet), how many
        // fields it has, and how many of them are nobody's.
        private final int[] lowest = new int[FIELDS];
        private final int[] sizes = new int[FIELDS];
        private final int[] free = new int[FIELDS];
        private final int[] reached = new int[FIELDS];
        private final int[] labels = new int[FIELDS];

        Regions(Ground ground) {
            this.ground = ground;
        }

        /** Finds all regions of a state; tells how many there are. */
        int survey(State state) {
            Arrays.fill(lowest, NONE);
            int found = 0;
            for (int field = 0; field < FIELDS; field++) {
                if (lowest[field] == NONE) {
                    spreadFrom(state, field);
                    found++;
                }
            }
            return found;
        }

        /** The fields are gone through upward, so that a start is the lowest field of its region. */
        private void spreadFrom(State state, int start) {
            if (!isField(start)) {
                return;
            }
            lowest[start] = start;
            reached[0] = start;
            int known = 1;
            int nobodys = 0;
            for (int at = 0; at < known && at < FIELDS; at++) {
                int field = reached[at];
                if (!isField(field)) {
                    continue;
                }
                if (state.takers[field] == NONE) {
                    nobodys++;
                }
                for (int side = 0; side < SIDES; side++) {
                    int edge = ground.edgeAt[field * SIDES + side];
                    int other = ground.beside[field * SIDES + side];
                    boolean open = isEdge(edge) && isField(other) && state.onEdges[edge] == NOTHING;
                    if (open && lowest[other] == NONE && known < FIELDS) {
                        lowest[other] = start;
                        reached[known] = other;
                        known++;
                    }
                }
            }
            for (int field = start; field < FIELDS; field++) {
                if (lowest[field] == start) {
                    sizes[field] = known;
                    free[field] = nobodys;
                }
            }
        }

        int lowestAround(int field) {
            return isField(field) ? lowest[field] : NONE;
        }

        int sizeAround(int field) {
            return isField(field) ? sizes[field] : 0;
        }

        int freeAround(int field) {
            return isField(field) ? free[field] : 0;
        }

        /** Another way than survey(): each open edge gives the fields on both sides of it one label. */
        int sizeByJoining(State state, int field) {
            for (int each = 0; each < FIELDS; each++) {
                labels[each] = each;
            }
            for (int edge = 0; edge < EDGES; edge++) {
                int far = ground.farField[edge];
                int near = ground.nearField[edge];
                if (state.onEdges[edge] == NOTHING && isField(far) && isField(near)) {
                    relabel(labels[far], labels[near]);
                }
            }
            return isField(field) ? countLabel(labels[field]) : 0;
        }

        private void relabel(int from, int to) {
            for (int each = 0; each < FIELDS; each++) {
                if (labels[each] == from) {
                    labels[each] = to;
                }
            }
        }

        private int countLabel(int label) {
            int some = 0;
            for (int each = 0; each < FIELDS; each++) {
                if (labels[each] == label) {
                    some++;
                }
            }
            return some;
        }
    }

    /** How letters come, and what comes of them. */
    private static final class Post {
        private final Ground ground;
        private final Regions regions;

        Post(Ground ground, Regions regions) {
            this.ground = ground;
            this.regions = regions;
        }

        /** Lets the days pass up to one, with all letters due in them; tells how many came. */
        int deliver(State state, int lastDay) {
            int came = 0;
            for (int each = 0; each < MOST_LETTERS; each++) {
                int letter = state.soonest();
                if (letter == NONE || state.told(letter, COMES) > lastDay) {
                    break;
                }
                state.day = state.told(letter, COMES);
                bring(state, letter);
                came++;
            }
            state.day = lastDay;
            return came;
        }

        private void bring(State state, int letter) {
            int first = state.enterTurn(letter);
            int reason = NO_REASON;
            if (growsHedge(state, first, letter)) {
                state.putOnEdge(edgeOf(state, letter), HEDGE);
            } else if (makesVoid(state, first, letter)) {
                state.giveBackFieldsOf(first);
                reason = CLAIMS_CROSSED;
            } else {
                reason = reasonAgainst(state, letter);
                if (reason == NO_REASON) {
                    carryOut(state, letter);
                }
            }
            state.mark(letter, REASON, reason);
            state.mark(letter, HOW, reason == NO_REASON ? DONE : REFUSED);
        }

        private boolean growsHedge(State state, int first, int second) {
            if (!state.wasDone(first, FENCE) || state.told(second, KIND) != FENCE) {
                return false;
            }
            int edge = edgeOf(state, first);
            return edge == edgeOf(state, second) && state.onEdge(edge) == fenceOf(state.told(first, PLAYER));
        }

        /** No letter comes between the two of a turn: what the first claim took is its player's still. */
        private boolean makesVoid(State state, int first, int second) {
            return state.wasDone(first, CLAIM)
                && state.told(second, KIND) == CLAIM
                && state.takerOf(state.told(second, FIELD)) == first;
        }

        private int reasonAgainst(State state, int letter) {
            switch (state.told(letter, KIND)) {
                case FENCE:
                    return reasonAgainstFence(state, edgeOf(state, letter));
                case GAP:
                    return reasonAgainstGap(state, edgeOf(state, letter));
                case CLAIM:
                    regions.survey(state);
                    return reasonAgainstClaim(state, state.told(letter, FIELD));
                default:
                    return NO_REASON;
            }
        }

        int reasonAgainstFence(State state, int edge) {
            return state.onEdge(edge) == NOTHING ? NO_REASON : EDGE_HAS_SOMETHING;
        }

        int reasonAgainstGap(State state, int edge) {
            int something = state.onEdge(edge);
            if (something == NOTHING || something == HEDGE) {
                return NO_FENCE_TO_OPEN;
            }
            return state.hasTruce() ? TRUCE_HOLDS : NO_REASON;
        }

        /** The regions of the state have to be surveyed ahead of this, once for all claims that are asked. */
        int reasonAgainstClaim(State state, int field) {
            if (state.takerOf(field) != NONE) {
                return FIELD_IS_TAKEN;
            }
            return regions.sizeAround(field) > state.settings[LARGEST_CLAIM] ? REGION_TOO_LARGE : NO_REASON;
        }

        private void carryOut(State state, int letter) {
            int player = state.told(letter, PLAYER);
            switch (state.told(letter, KIND)) {
                case FENCE:
                    state.putOnEdge(edgeOf(state, letter), fenceOf(player));
                    break;
                case GAP:
                    state.putOnEdge(edgeOf(state, letter), NOTHING);
                    break;
                case CLAIM:
                    takeRegion(state, letter);
                    break;
                default:
                    if (isPlayer(player)) {
                        state.truceEnds[player] = state.day + state.told(letter, SIDE_OR_DAYS);
                    }
                    break;
            }
        }

        private void takeRegion(State state, int claim) {
            int region = regions.lowestAround(state.told(claim, FIELD));
            for (int field = 0; field < FIELDS; field++) {
                if (regions.lowestAround(field) == region && state.takers[field] == NONE) {
                    state.takers[field] = claim;
                }
            }
        }

        private int edgeOf(State state, int letter) {
            return ground.edgeNumber(state.told(letter, FIELD), state.told(letter, SIDE_OR_DAYS));
        }
    }

    /** The latest states that acts have left, in a ring. */
    private static final class History {
        private final State[] states = {new State(), new State(), new State(), new State()};
        /** The place behind the latest state, where one more will stand. */
        private int behind;
        int size;

        void add(State state) {
            int place = Math.floorMod(behind, MOST_STATES);
            states[place].takeFrom(state);
            behind = place + 1;
            if (size < MOST_STATES) {
                size++;
            }
        }

        /** Tells how many states are left; NONE if there was none. */
        int takeBack(State state) {
            if (size == 0) {
                return NONE;
            }
            int latest = Math.floorMod(behind - 1, MOST_STATES);
            state.takeFrom(states[latest]);
            behind = latest;
            size--;
            return size;
        }
    }

    /** The text, and the game that is read from it. */
    private static final class Game {
        private final char[] text = new char[MOST_CHARACTERS];
        int length;
        private int at;
        int things;
        // The things of the game: each has a kind, and of these parts those that its kind needs.
        final int[] kinds = new int[MOST_CHARACTERS];
        final int[] players = new int[MOST_CHARACTERS];
        final int[] numbers = new int[MOST_CHARACTERS];
        final int[] sides = new int[MOST_CHARACTERS];

        int append(char character) {
            if (length < 0 || length >= MOST_CHARACTERS) {
                return FULL;
            }
            text[length] = character;
            length++;
            return length;
        }

        int empty() {
            int had = length;
            length = 0;
            return had;
        }

        int part(int[] parts, int thing) {
            return thing >= 0 && thing < parts.length ? parts[thing] : NONE;
        }

        private void putPart(int[] parts, int thing, int value) {
            if (thing >= 0 && thing < parts.length) {
                parts[thing] = value;
            }
        }

        /** Reads the game; tells where the text has its fault, NONE if it has none. */
        int findFault() {
            at = 0;
            things = 0;
            for (int thing = 0; thing < MOST_CHARACTERS; thing++) {
                if (!readThing(thing)) {
                    return at;
                }
                things++;
                if (at == length) {
                    return NONE;
                }
                if (look() != ';') {
                    return at;
                }
                at++;
            }
            return at;
        }

        // Each reader stands behind what it has read, or, if it answers false, at the fault.

        private boolean readThing(int thing) {
            int first = look();
            if (first == '.') {
                at++;
                putPart(kinds, thing, DAYS);
                return readNumber(thing, 1, MOST_DAYS);
            }
            if (first != '0' && first != '1') {
                return false;
            }
            at++;
            putPart(players, thing, first - '0');
            return readLetter(thing);
        }

        private boolean readLetter(int thing) {
            int kind = kindOf(look());
            if (kind == NONE) {
                return false;
            }
            at++;
            putPart(kinds, thing, kind);
            switch (kind) {
                case CLAIM: return readNumber(thing, 0, FIELDS - 1);
                case TRUCE: return readNumber(thing, 1, MOST_DAYS);
                default: return readNumber(thing, 0, FIELDS - 1) && readSide(thing);
            }
        }

        /** A digit that is too much is left: no digit is allowed behind a number, so it is the fault then. */
        private boolean readNumber(int thing, int least, int most) {
            int number = digitOf(look());
            if (number < least) {
                return false;
            }
            at++;
            int digit = digitOf(look());
            if (number > 0 && digit >= 0 && number * 10 + digit <= most) {
                at++;
                number = number * 10 + digit;
            }
            putPart(numbers, thing, number);
            return true;
        }

        private boolean readSide(int thing) {
            int side = sideOf(look());
            if (side == NONE) {
                return false;
            }
            at++;
            putPart(sides, thing, side);
            return true;
        }

        /** The character at the place that is read; NONE behind the text. */
        private int look() {
            return at >= 0 && at < length && at < MOST_CHARACTERS ? text[at] : NONE;
        }

        private static int kindOf(int character) {
            switch (character) {
                case 'f': return FENCE;
                case 'g': return GAP;
                case 'c': return CLAIM;
                case 't': return TRUCE;
                default: return NONE;
            }
        }

        private static int sideOf(int character) {
            switch (character) {
                case 'n': return 0;
                case 'e': return 1;
                case 's': return 2;
                case 'w': return 3;
                default: return NONE;
            }
        }

        private static int digitOf(int character) {
            return character >= '0' && character <= '9' ? character - '0' : NONE;
        }
    }
}

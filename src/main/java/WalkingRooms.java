import java.util.Arrays;

/**
 * Rooms that walk at night. The face checks what it is given and answers; the classes inside
 * do the work on rows that are made once, because all calls of a run share one small memory.
 */
public final class WalkingRooms {
    public static final int NONE = -1;

    private static final int REFUSED = -2;
    private static final int UNKNOWN = -3;

    private static final int TAPE_MOST = 400;
    private static final int FEED_BYTES = 20;
    private static final int PALACE_CLAUSES_MOST = 40;
    private static final int RULE_CLAUSES_MOST = 12;
    private static final int RULES_MOST = 6;
    private static final int DIGITS_MOST = 5;
    private static final int DEPTH_MOST = 10;
    private static final int COUNTED_MOST = 60;

    private static final int CELLS = 16;
    private static final int SPAN_MOST = 4;
    private static final int SIDES = 4;
    private static final int ROOMS_MOST = 12;
    private static final int PEOPLE_MOST = 6;
    private static final int KEYS_MOST = 4;
    private static final int PAST_MOST = 20;
    private static final int DRAFTS_MOST = 4;
    private static final int IMAGES_MOST = 4;
    private static final int ALMANAC_MOST = 10;
    private static final int WISHES_MOST = 12;
    private static final int WOKEN_MOST = 8;
    private static final int HEARING_MOST = 16;
    private static final int ROW_MOST = 3;
    private static final int TIMES_MOST = 10;
    private static final int DRAWN_NIGHTS_MOST = 60;

    private static final int SITUATIONS_MOST = 1500;
    private static final int TABLE = 4096;
    private static final int TRIES_MOST = 20000;
    // 48 slides, 66 changes and 12 turns are more than any floor has.
    private static final int WALKS_MOST = 126;

    private static final int SLIDE = 1;
    private static final int CHANGE = 2;
    private static final int TURN = 3;
    private static final int WAY_SLIDE = 1;
    private static final int WAY_CHANGE = 2;
    private static final int WAY_TURN = 4;
    private static final int ALL_WAYS = 7;

    private static final int WALL = 0;
    private static final int DOOR = 1;
    private static final int WINDOW = 2;
    // Stands for the side that an EMPTY CELL or the edge shows to a neighbour.
    private static final int NOTHING = 3;
    private static final int FIRST_LOCK = 3;
    private static final int LAST_SORT = 6;

    private static final int LAW_WAYS = 1;
    private static final int LAW_PLACE = 2;
    private static final int LAW_MEETING = 3;
    private static final int LAW_RULE = 4;
    private static final int NO_MORE = 1;
    private static final int NO_MISMATCH = 2;

    private static final int FAULT_SIGN = 0;
    private static final int FAULT_NUMBER = 1;
    private static final int FAULT_DEPTH = 2;
    private static final int FAULT_COUNT = 3;
    private static final int FAULT_CLAUSE = 4;
    private static final int FAULT_CELL = 5;

    // What a RULE is turned into: values first, then what is done to them.
    private static final int STOP = 0;
    private static final int OR = 1;
    private static final int AND = 2;
    private static final int NOT = 3;
    private static final int LESS = 4;
    private static final int LESS_OR_EQUAL = 5;
    private static final int EQUAL = 6;
    private static final int MORE_OR_EQUAL = 7;
    private static final int MORE = 8;
    private static final int PLUS = 9;
    private static final int MINUS = 10;
    private static final int TIMES = 11;
    private static final int OVER = 12;
    private static final int REST = 13;
    private static final int OPEN = 14;
    private static final int FIRST_WORD = 20;
    private static final int FIRST_NUMBER = 100;
    private static final int[] RANKS = {0, 1, 2, 3, 4, 4, 4, 4, 4, 5, 5, 6, 6, 6, 0};
    private static final int OPERATORS_MOST = 64;
    private static final int OPERANDS_MOST = 64;
    private static final int NO_OTHER = 99;

    private final byte[] tape = new byte[TAPE_MOST];
    private int tapeLength = 0;
    private final int[][] rules = new int[RULES_MOST][TAPE_MOST + 1];
    private int ruleCount = 0;

    private House now = new House();
    private House spare = new House();
    private final House[] images = new House[IMAGES_MOST];

    private final PalaceReader palaceReader = new PalaceReader();
    private final RuleReader ruleReader = new RuleReader();
    private final Laws laws = new Laws();
    private final Search search = new Search();
    private final Trials trials = new Trials();
    private final Day day = new Day();
    private final Layings layings = new Layings();
    private final int[] walks = new int[WALKS_MOST];
    // Tells whether what a dear question found out last still holds.
    private int changes = 0;

    public WalkingRooms() {
    }

    // ---- the tape, the palace and the rules

    public int feed(int a, int b, int c, int d, int e) {
        if (tapeLength + FEED_BYTES > TAPE_MOST) {
            return NONE;
        }
        putBytes(a);
        putBytes(b);
        putBytes(c);
        putBytes(d);
        putBytes(e);
        return tapeLength;
    }

    private void putBytes(int number) {
        for (int shift = 24; shift >= 0 && tapeLength < TAPE_MOST; shift -= 8) {
            tape[tapeLength] = (byte) (number >> shift);
            tapeLength++;
        }
    }

    public int end(int n) {
        if (n < 0 || n > tapeLength) {
            return NONE;
        }
        tapeLength = n;
        return n;
    }

    public int palace() {
        int fault = palaceReader.read(tape, tapeLength, spare);
        tapeLength = 0;
        if (fault != 0) {
            return REFUSED - fault;
        }
        spare.seed = now.seed;
        House old = now;
        now = spare;
        spare = old;
        changes++;
        return now.floor.rooms;
    }

    public int rule() {
        if (ruleCount >= RULES_MOST) {
            return NONE;
        }
        int fault = ruleReader.read(tape, tapeLength);
        tapeLength = 0;
        if (fault != 0) {
            return REFUSED - fault;
        }
        ruleReader.copyTo(rules[ruleCount]);
        ruleCount++;
        return ruleCount - 1;
    }

    public int force(int rule) {
        if (!now.told || rule < NONE || rule >= ruleCount) {
            return REFUSED;
        }
        int was = now.force;
        now.force = rule;
        changes++;
        return was;
    }

    private int[] ruleInForce() {
        return now.force >= 0 && now.force < ruleCount ? rules[now.force] : null;
    }

    public int law(int law) {
        if (!now.told || law < 0 || law > NO_MISMATCH) {
            return REFUSED;
        }
        int was = now.law;
        now.law = law;
        changes++;
        return was;
    }

    // ---- the floor as it is

    public int room(int room, int what) {
        if (!now.isRoom(room)) {
            return NONE;
        }
        switch (what) {
            case 0:
                return now.floor.cellOf[room];
            case 1:
                return now.floor.turnOf[room];
            case 2:
            case 3:
            case 4:
            case 5:
                return now.floor.sortOf(room, what - 2);
            case 6:
                return now.isFixed(room) ? 1 : 0;
            case 7:
                return now.keysIn(room);
            case 8:
                return now.sleepersIn(room);
            default:
                return NONE;
        }
    }

    public int at(int x, int y) {
        int cell = now.floor.cellAt(x, y);
        return cell == NONE ? REFUSED : now.floor.roomAt[cell];
    }

    public int sleeps(int person) {
        return now.isPerson(person) ? now.bedOf[person] : NONE;
    }

    public int mismatch(int what) {
        if (!now.told || what < 0 || what > 3) {
            return NONE;
        }
        if (what == 0) {
            return now.floor.mismatches();
        }
        int first = now.floor.firstMismatch();
        if (first == NONE) {
            return REFUSED;
        }
        int cell = first / SIDES;
        if (what == 1) {
            return cell & 3;
        }
        return what == 2 ? cell >> 2 : first % SIDES;
    }

    // ---- by hand by day

    private void dayCame() {
        now.forgetPast();
        changes++;
    }

    public int brick(int room, int side, int sort) {
        if (!now.isRoom(room) || side < 0 || side >= SIDES || sort < 0 || sort > LAST_SORT) {
            return REFUSED;
        }
        int was = now.floor.sortOf(room, side);
        if (was == sort) {
            return REFUSED;
        }
        now.floor.setSort(room, side, sort);
        dayCame();
        return was;
    }

    public int lay(int key, int room) {
        if (!now.told || key < 1 || key > KEYS_MOST || room != NONE && !now.isRoom(room)) {
            return REFUSED;
        }
        int was = now.keyRoom[key];
        if (was == room) {
            return REFUSED;
        }
        now.keyRoom[key] = room;
        dayCame();
        return was;
    }

    public int bed(int person, int room) {
        if (!now.isPerson(person) || !now.isRoom(room) || now.bedOf[person] == room) {
            return REFUSED;
        }
        int was = now.bedOf[person];
        now.bedOf[person] = room;
        dayCame();
        return was;
    }

    public boolean fix(int room, boolean is) {
        if (!now.isRoom(room) || now.isFixed(room) == is) {
            return false;
        }
        now.fixed ^= 1 << room;
        dayCame();
        return true;
    }

    // ---- nights

    public int walk(int kind, int room, int other) {
        int walk = now.walkOf(kind, room, other);
        if (walk == NONE) {
            return NONE;
        }
        laws.open(now, now.floor, ruleInForce());
        int broken = laws.broken(walk);
        if (broken != 0) {
            return REFUSED - broken;
        }
        nightComes(walk);
        return now.nights;
    }

    public int rest() {
        if (!now.told) {
            return NONE;
        }
        nightComes(NONE);
        return now.nights;
    }

    private void nightComes(int walk) {
        now.keepPast();
        if (walk != NONE) {
            now.floor.go(walk);
        }
        now.nights++;
        changes++;
    }

    public int undo() {
        if (now.pastCells.count == 0) {
            return REFUSED;
        }
        now.takeNightBack();
        changes++;
        return now.pastCells.count;
    }

    public int can() {
        return now.told ? listWalks() : NONE;
    }

    private int listWalks() {
        laws.open(now, now.floor, ruleInForce());
        return laws.list(walks);
    }

    public int choice(int k, int what) {
        if (!now.told || k < 0 || what < 0 || what > 3 || k >= listWalks()) {
            return NONE;
        }
        if (what < 3) {
            return partOf(walks[k], what);
        }
        return now.floor.mismatches() + now.floor.gain(walks[k]);
    }

    private static int partOf(int walk, int what) {
        if (what == 0) {
            return walk >> 8;
        }
        return what == 1 ? walk >> 4 & 15 : walk & 15;
    }

    // ---- drafts

    public int draft(int draft) {
        if (!now.told || draft < 0 || draft >= DRAFTS_MOST) {
            return NONE;
        }
        now.keepDraft(draft, now.floor);
        changes++;
        return now.floor.mismatches();
    }

    public boolean redraw(int draft, int kind, int room, int other) {
        int walk = now.walkOf(kind, room, other);
        if (!now.hasDraft(draft) || walk == NONE || !trials.redraws(now, draft, walk)) {
            return false;
        }
        now.keepDraft(draft, trials.floor);
        changes++;
        return true;
    }

    public int drafted(int draft, int room, int what) {
        if (!now.hasDraft(draft) || !now.isRoom(room) || what < 0 || what > 1) {
            return NONE;
        }
        return what == 0 ? now.draftCell(draft, room) : now.draftTurn(draft, room);
    }

    public int nights(int draft) {
        if (!now.hasDraft(draft)) {
            return NONE;
        }
        search.ask(now, ruleInForce(), draft, changes);
        return search.answer;
    }

    public int row(int draft, int k, int what) {
        if (!now.hasDraft(draft) || k < 0 || what < 0 || what > 2) {
            return NONE;
        }
        search.ask(now, ruleInForce(), draft, changes);
        if (search.answer < 0) {
            return search.answer;
        }
        return k < search.answer && k < search.path.length ? partOf(search.path[k], what) : REFUSED;
    }

    public int marks(int draft) {
        return now.hasDraft(draft) ? search.marksOf(now, draft) : NONE;
    }

    public int floors() {
        return now.told ? layings.layRooms(now) : NONE;
    }

    // ---- by day

    public int steps(int from, int to) {
        if (!now.isRoom(from) || !now.isRoom(to)) {
            return NONE;
        }
        day.spread(now, from);
        return day.fewest(to);
    }

    public int reach(int room, int what) {
        if (!now.isRoom(room) || what < 0 || what > 1) {
            return NONE;
        }
        day.spread(now, room);
        return what == 0 ? day.reachedRooms() : day.reachedKeys();
    }

    public int gossip(int room, int n) {
        if (!now.isRoom(room) || n < 0 || n > HEARING_MOST) {
            return NONE;
        }
        return Integer.bitCount(day.hearing(now, room, n));
    }

    // ---- the almanac and wishes

    public int almanac(int kind, int room, int other) {
        if (kind == NONE) {
            now.almanac.count = 0;
            return 0;
        }
        int walk = now.walkOf(kind, room, other);
        return walk != NONE && now.almanac.add(walk) ? now.almanac.count : REFUSED;
    }

    public int would(int room, int nights, int what) {
        if (!now.isRoom(room) || nights < 0 || nights > now.almanac.count || what < 0 || what > 2) {
            return NONE;
        }
        trials.liveTo(now, ruleInForce(), nights);
        if (what == 2) {
            return trials.leftOut;
        }
        return what == 0 ? trials.floor.cellOf[room] : trials.floor.turnOf[room];
    }

    public int follow() {
        if (!now.told) {
            return NONE;
        }
        int leftOut = 0;
        for (int k = 0; k < now.almanac.count; k++) {
            int walk = (int) now.almanac.items[k];
            laws.open(now, now.floor, ruleInForce());
            boolean may = laws.broken(walk) == 0;
            nightComes(may ? walk : NONE);
            leftOut += may ? 0 : 1;
        }
        now.almanac.count = 0;
        return leftOut;
    }

    public int wish(int person, int nights, int x, int y) {
        if (person == NONE) {
            now.wishes.count = 0;
            return 0;
        }
        int cell = now.floor.cellAt(x, y);
        if (!now.isPerson(person) || nights < 0 || nights > ALMANAC_MOST || cell == NONE) {
            return REFUSED;
        }
        return now.wishes.add(person << 8 | nights << 4 | cell) ? now.wishes.count : REFUSED;
    }

    public int beds(int what) {
        if (!now.told || what < 0 || what > PEOPLE_MOST) {
            return NONE;
        }
        trials.roomsWished(now, ruleInForce(), layings.may);
        if (what == 0) {
            return layings.layPeople(now);
        }
        return now.isPerson(what - 1) ? layings.firstBed(now, what - 1) : REFUSED;
    }

    public int almost(int person, int room) {
        if (!now.isPerson(person) || !now.isRoom(room)) {
            return NONE;
        }
        trials.roomsWished(now, ruleInForce(), layings.may);
        layings.may[person] &= 1 << room;
        return layings.layPeople(now);
    }

    // ---- guards, drift, woke, built

    public int guards(int what) {
        if (!now.told || what < 0 || what > 1) {
            return NONE;
        }
        int set = day.guarding(now.floor);
        return what == 0 ? Integer.bitCount(set) : set;
    }

    public int drift(int what) {
        if (!now.told || what < 0 || what > 2) {
            return NONE;
        }
        if (what == 0) {
            return now.floor.lockedDrift();
        }
        int most = now.floor.mostDoors();
        if (most == NONE) {
            return REFUSED;
        }
        return what == 1 ? most : now.floor.doorsThatMeet(most);
    }

    public int woke(int room, int x, int y) {
        if (room == NONE) {
            now.woken.count = 0;
            changes++;
            return 0;
        }
        int cell = now.floor.cellAt(x, y);
        if (!now.isRoom(room) || cell == NONE || !now.woken.add(room << 4 | cell)) {
            return REFUSED;
        }
        changes++;
        return now.woken.count;
    }

    public int how(int n, int what) {
        if (!now.told || n < 0 || n > ROW_MOST || what < 0 || what > 6) {
            return NONE;
        }
        trials.askRows(now, ruleInForce(), n, changes);
        if (what <= TURN) {
            return trials.totals[what];
        }
        int place = what - TURN - 1;
        return trials.totals[0] > 0 && place < n ? trials.first[place] : REFUSED;
    }

    public int built(int x, int y, int what) {
        int cell = now.floor.cellAt(x, y);
        if (cell == NONE || now.floor.roomAt[cell] != NONE || what < 0 || what > SIDES) {
            return NONE;
        }
        if (what == 0) {
            return now.floor.mismatches() - now.floor.doorsTowards(cell);
        }
        return now.floor.sideToBuild(cell, what - 1);
    }

    public int best() {
        if (!now.told) {
            return NONE;
        }
        int best = REFUSED;
        int most = NONE;
        for (int cell = 0; cell < CELLS; cell++) {
            // Each door towards it is a MISMATCH that the new ROOM mends; it makes none.
            if (now.floor.isEmptyCell(cell) && now.floor.doorsTowards(cell) > most) {
                best = cell;
                most = now.floor.doorsTowards(cell);
            }
        }
        return best;
    }

    // ---- draws, counts and images

    public int seed(int x) {
        if (x < 0) {
            return NONE;
        }
        int was = now.seed;
        now.seed = x;
        return was;
    }

    public int drawn(int m, int n, int one, int other, int what) {
        if (m < 1 || m > TIMES_MOST || n < 1 || n > DRAWN_NIGHTS_MOST || what < 0 || what > 2) {
            return NONE;
        }
        if (!now.isRoom(one) || !now.isRoom(other) || one == other) {
            return NONE;
        }
        trials.drawTimes(now, ruleInForce(), m, n, one, other);
        if (what == 0) {
            return trials.drawnMismatches;
        }
        return what == 1 ? trials.drawnMeetings : trials.drawnWalks;
    }

    public int count(int what) {
        switch (what) {
            case 0:
                return now.floor.columns;
            case 1:
                return now.floor.rows;
            case 2:
                return now.floor.rooms;
            case 3:
                return now.people;
            case 4:
                return now.ways;
            case 5:
                return now.law;
            case 6:
                return ruleCount;
            case 7:
                return now.force;
            case 8:
                return now.nights;
            default:
                return countMore(what);
        }
    }

    private int countMore(int what) {
        switch (what) {
            case 9:
                return now.pastCells.count;
            case 10:
                return now.almanac.count;
            case 11:
                return now.wishes.count;
            case 12:
                return now.woken.count;
            case 13:
                return now.seed;
            case 14:
                return tapeLength;
            case 15:
                return now.floor.emptyCells();
            case 16:
                return now.drafts;
            default:
                return NONE;
        }
    }

    public int image(int k) {
        if (k < 0 || k >= IMAGES_MOST) {
            return NONE;
        }
        if (images[k] == null) {
            images[k] = new House();
        }
        images[k].copyFrom(now);
        return now.nights;
    }

    public int back(int k) {
        if (k < 0 || k >= IMAGES_MOST || images[k] == null) {
            return NONE;
        }
        now.copyFrom(images[k]);
        changes++;
        return now.nights;
    }

    /** Things told one behind the other, up to a limit. */
    private static final class Row {
        final long[] items;
        int count = 0;

        Row(int most) {
            items = new long[most];
        }

        boolean add(long item) {
            if (count >= items.length) {
                return false;
            }
            items[count] = item;
            count++;
            return true;
        }

        void dropFirst() {
            if (count > 0) {
                System.arraycopy(items, 1, items, 0, count - 1);
                count--;
            }
        }

        void copyFrom(Row from) {
            count = Math.min(from.count, items.length);
            System.arraycopy(from.items, 0, items, 0, count);
        }
    }

    /** Where the rooms lie and how each is turned; trials have floors of their own. */
    private static final class Floor {
        int columns = 0;
        int rows = 0;
        int rooms = 0;
        // All places (4 bits a room) and turns (2 bits a room): two floors are told apart by these.
        long cells = 0;
        int turns = 0;
        final int[] cellOf = new int[ROOMS_MOST];
        final int[] turnOf = new int[ROOMS_MOST];
        final int[] roomAt = new int[CELLS];
        // Sorts of sides as they were told, before any turn.
        final int[] sides = new int[SIDES * ROOMS_MOST];
        // What each CELL shows over each side, as its room lies, and which CELL is there.
        final int[] kinds = new int[SIDES * CELLS];
        final int[] next = new int[SIDES * CELLS];

        Floor() {
            Arrays.fill(roomAt, NONE);
            Arrays.fill(kinds, NOTHING);
            Arrays.fill(next, NONE);
        }

        void layOut(int columns, int rows) {
            this.columns = columns;
            this.rows = rows;
            rooms = 0;
            cells = 0;
            turns = 0;
            Arrays.fill(sides, WALL);
            sweep();
            for (int cell = 0; cell < CELLS; cell++) {
                int x = cell & 3;
                int y = cell >> 2;
                next[SIDES * cell] = cellAt(x, y - 1);
                next[SIDES * cell + 1] = cellAt(x + 1, y);
                next[SIDES * cell + 2] = cellAt(x, y + 1);
                next[SIDES * cell + 3] = cellAt(x - 1, y);
            }
        }

        private void sweep() {
            Arrays.fill(roomAt, NONE);
            Arrays.fill(kinds, NOTHING);
        }

        void copyFrom(Floor from) {
            columns = from.columns;
            rows = from.rows;
            rooms = from.rooms;
            System.arraycopy(from.sides, 0, sides, 0, sides.length);
            System.arraycopy(from.next, 0, next, 0, next.length);
            arrange(from.cells, from.turns);
        }

        void arrange(long cells, int turns) {
            this.cells = 0;
            this.turns = 0;
            sweep();
            for (int room = 0; room < rooms; room++) {
                put(room, (int) (cells >> 4 * room) & 15, turns >> 2 * room & 3);
            }
        }

        int cellAt(int x, int y) {
            return x >= 0 && x < columns && y >= 0 && y < rows ? SPAN_MOST * y + x : NONE;
        }

        boolean isEmptyCell(int cell) {
            return (cell & 3) < columns && cell >> 2 < rows && roomAt[cell] == NONE;
        }

        int emptyCells() {
            return columns * rows - rooms;
        }

        void put(int room, int cell, int turn) {
            cellOf[room] = cell;
            turnOf[room] = turn;
            roomAt[cell] = room;
            cells = cells & ~(15L << 4 * room) | (long) cell << 4 * room;
            turns = turns & ~(3 << 2 * room) | turn << 2 * room;
            for (int side = 0; side < SIDES; side++) {
                int sort = sides[SIDES * room + (side - turn & 3)];
                kinds[SIDES * cell + side] = sort >= FIRST_LOCK ? DOOR : sort;
            }
        }

        void take(int room) {
            int cell = cellOf[room];
            roomAt[cell] = NONE;
            for (int side = 0; side < SIDES; side++) {
                kinds[SIDES * cell + side] = NOTHING;
            }
        }

        int sortOf(int room, int side) {
            return sides[SIDES * room + (side - turnOf[room] & 3)];
        }

        void setSort(int room, int side, int sort) {
            sides[SIDES * room + (side - turnOf[room] & 3)] = sort;
            put(room, cellOf[room], turnOf[room]);
        }

        int sideTo(int from, int to) {
            for (int side = 0; side < SIDES; side++) {
                if (next[SIDES * from + side] == to) {
                    return side;
                }
            }
            return NONE;
        }

        boolean canGo(int walk) {
            int cell = cellOf[walk >> 4 & 15];
            int other = walk & 15;
            if (walk >> 8 == SLIDE) {
                int to = next[SIDES * cell + other];
                return to != NONE && roomAt[to] == NONE;
            }
            return walk >> 8 == TURN || sideTo(cell, cellOf[other]) != NONE;
        }

        void go(int walk) {
            stir(walk, true);
        }

        void goBack(int walk) {
            stir(walk, false);
        }

        private void stir(int walk, boolean onwards) {
            int room = walk >> 4 & 15;
            int other = walk & 15;
            int cell = cellOf[room];
            if (walk >> 8 == TURN) {
                put(room, cell, turnOf[room] + (onwards ? 1 : 3) & 3);
            } else if (walk >> 8 == CHANGE) {
                int there = cellOf[other];
                put(room, there, turnOf[room]);
                put(other, cell, turnOf[other]);
            } else {
                int to = next[SIDES * cell + (onwards ? other : other ^ 2)];
                if (to != NONE) {
                    take(room);
                    put(room, to, turnOf[room]);
                }
            }
        }

        /** How many MISMATCHES more a WALK that can be leaves behind it. */
        int gain(int walk) {
            int cell = cellOf[walk >> 4 & 15];
            int side = NONE;
            if (walk >> 8 == SLIDE) {
                side = walk & 15;
            } else if (walk >> 8 == CHANGE) {
                side = sideTo(cell, cellOf[walk & 15]);
            }
            int ahead = touching(cell, side);
            stir(walk, true);
            int behind = touching(cell, side);
            stir(walk, false);
            return behind - ahead;
        }

        private int touching(int cell, int side) {
            int sum = 0;
            for (int s = 0; s < SIDES; s++) {
                sum += border(cell, s);
            }
            int there = side == NONE ? NONE : next[SIDES * cell + side];
            for (int s = 0; s < SIDES && there != NONE; s++) {
                sum += s == (side ^ 2) ? 0 : border(there, s);
            }
            return sum;
        }

        private int border(int cell, int side) {
            int near = kinds[SIDES * cell + side];
            int there = next[SIDES * cell + side];
            int far = there == NONE ? NOTHING : kinds[SIDES * there + (side ^ 2)];
            if (near == far) {
                return 0;
            }
            if (near == NOTHING || far == NOTHING) {
                return near == DOOR || far == DOOR ? 1 : 0;
            }
            return 1;
        }

        int mismatches() {
            int sum = 0;
            for (int y = 0; y < rows; y++) {
                for (int x = 0; x < columns; x++) {
                    int cell = SPAN_MOST * y + x;
                    sum += border(cell, 1) + border(cell, 2);
                    sum += y == 0 ? border(cell, 0) : 0;
                    sum += x == 0 ? border(cell, 3) : 0;
                }
            }
            return sum;
        }

        int firstMismatch() {
            for (int cell = 0; cell < CELLS; cell++) {
                for (int side = 0; side < SIDES; side++) {
                    // A door towards an EMPTY CELL is one of the door's CELL, not of that one.
                    if (roomAt[cell] != NONE && border(cell, side) == 1) {
                        return SIDES * cell + side;
                    }
                }
            }
            return NONE;
        }

        /** Whether a ROOM just laid goes with the ROOMS laid so far and the edge. */
        boolean fits(int room) {
            for (int side = 0; side < SIDES; side++) {
                int spot = SIDES * cellOf[room] + side;
                int there = next[spot];
                boolean alone = there == NONE || roomAt[there] == NONE;
                if (there == NONE && kinds[spot] == DOOR) {
                    return false;
                }
                if (!alone && kinds[spot] != kinds[SIDES * there + (side ^ 2)]) {
                    return false;
                }
            }
            return true;
        }

        int doorsOf(int room) {
            int sum = 0;
            for (int side = 0; side < SIDES; side++) {
                int sort = sides[SIDES * room + side];
                sum += sort == DOOR || sort >= FIRST_LOCK ? 1 : 0;
            }
            return sum;
        }

        int locksOf(int room) {
            int sum = 0;
            for (int side = 0; side < SIDES; side++) {
                sum += sides[SIDES * room + side] >= FIRST_LOCK ? 1 : 0;
            }
            return sum;
        }

        int throughDoor(int room, int side) {
            int spot = SIDES * cellOf[room] + side;
            int there = next[spot];
            if (there == NONE || kinds[spot] != DOOR || kinds[SIDES * there + (side ^ 2)] != DOOR) {
                return NONE;
            }
            return roomAt[there];
        }

        /** KEYS, as bits, that the doors between a ROOM and the one over its side ask for. */
        int locksBetween(int room, int side, int there) {
            int near = sortOf(room, side);
            int far = sortOf(there, side ^ 2);
            int keys = near >= FIRST_LOCK ? 1 << near - FIRST_LOCK + 1 : 0;
            return far >= FIRST_LOCK ? keys | 1 << far - FIRST_LOCK + 1 : keys;
        }

        boolean doorToDoor(int one, int other) {
            for (int side = 0; side < SIDES; side++) {
                if (throughDoor(one, side) == other) {
                    return true;
                }
            }
            return false;
        }

        int mostDoors() {
            int most = NONE;
            for (int room = 0; room < rooms; room++) {
                if (most == NONE || doorsOf(room) > doorsOf(most)) {
                    most = room;
                }
            }
            return most;
        }

        int doorsThatMeet(int room) {
            int sum = 0;
            for (int side = 0; side < SIDES; side++) {
                sum += throughDoor(room, side) == NONE ? 0 : 1;
            }
            return sum;
        }

        int lockedDrift() {
            int sum = 0;
            for (int room = 0; room < rooms; room++) {
                int x = cellOf[room] & 3;
                int y = cellOf[room] >> 2;
                int across = Math.min(x, columns - 1 - x);
                int along = Math.min(y, rows - 1 - y);
                sum += locksOf(room) > 0 ? Math.min(across, along) : 0;
            }
            return sum;
        }

        /** What a new ROOM in a CELL best shows over a side: what it meets, or else a wall. */
        int sideToBuild(int cell, int side) {
            int there = next[SIDES * cell + side];
            int far = there == NONE ? NOTHING : kinds[SIDES * there + (side ^ 2)];
            return far == NOTHING ? WALL : far;
        }

        int doorsTowards(int cell) {
            int sum = 0;
            for (int side = 0; side < SIDES; side++) {
                sum += sideToBuild(cell, side) == DOOR ? 1 : 0;
            }
            return sum;
        }
    }

    /** All that an IMAGE keeps. */
    private static final class House {
        boolean told = false;
        int ways = 0;
        int people = 0;
        int fixed = 0;
        int law = 0;
        int force = NONE;
        int nights = 0;
        int seed = 0;
        int drafts = 0;
        final Floor floor = new Floor();
        final int[] keyRoom = {NONE, NONE, NONE, NONE, NONE};
        final int[] bedOf = new int[PEOPLE_MOST];
        final Row pastCells = new Row(PAST_MOST);
        final Row pastTurns = new Row(PAST_MOST);
        final long[] draftCells = new long[DRAFTS_MOST];
        final int[] draftTurns = new int[DRAFTS_MOST];
        final Row almanac = new Row(ALMANAC_MOST);
        final Row wishes = new Row(WISHES_MOST);
        final Row woken = new Row(WOKEN_MOST);

        void build(int columns, int rows) {
            told = true;
            ways = ALL_WAYS;
            people = 0;
            fixed = 0;
            law = 0;
            force = NONE;
            nights = 0;
            drafts = 0;
            floor.layOut(columns, rows);
            Arrays.fill(keyRoom, NONE);
            forgetPast();
            almanac.count = 0;
            wishes.count = 0;
            woken.count = 0;
        }

        void copyFrom(House from) {
            told = from.told;
            ways = from.ways;
            people = from.people;
            fixed = from.fixed;
            law = from.law;
            force = from.force;
            nights = from.nights;
            seed = from.seed;
            drafts = from.drafts;
            floor.copyFrom(from.floor);
            System.arraycopy(from.keyRoom, 0, keyRoom, 0, keyRoom.length);
            System.arraycopy(from.bedOf, 0, bedOf, 0, bedOf.length);
            pastCells.copyFrom(from.pastCells);
            pastTurns.copyFrom(from.pastTurns);
            System.arraycopy(from.draftCells, 0, draftCells, 0, draftCells.length);
            System.arraycopy(from.draftTurns, 0, draftTurns, 0, draftTurns.length);
            almanac.copyFrom(from.almanac);
            wishes.copyFrom(from.wishes);
            woken.copyFrom(from.woken);
        }

        boolean isRoom(int room) {
            return room >= 0 && room < floor.rooms;
        }

        boolean isPerson(int person) {
            return person >= 0 && person < people;
        }

        boolean isFixed(int room) {
            return (fixed >> room & 1) == 1;
        }

        int keysIn(int room) {
            int keys = 0;
            for (int key = 1; key <= KEYS_MOST; key++) {
                keys |= keyRoom[key] == room ? 1 << key : 0;
            }
            return keys;
        }

        int sleepersIn(int room) {
            int sleepers = 0;
            for (int person = 0; person < people; person++) {
                sleepers |= bedOf[person] == room ? 1 << person : 0;
            }
            return sleepers;
        }

        /** A WALK as one number; NONE if there can be none such. Of a CHANGE the lesser ROOM leads. */
        int walkOf(int kind, int room, int other) {
            if (kind < SLIDE || kind > TURN || !isRoom(room)) {
                return NONE;
            }
            if (kind == SLIDE && (other < 0 || other >= SIDES) || kind == TURN && other != 0) {
                return NONE;
            }
            if (kind == CHANGE && (!isRoom(other) || other == room)) {
                return NONE;
            }
            boolean turned = kind == CHANGE && other < room;
            return kind << 8 | (turned ? other : room) << 4 | (turned ? room : other);
        }

        void keepPast() {
            if (pastCells.count >= PAST_MOST) {
                pastCells.dropFirst();
                pastTurns.dropFirst();
            }
            pastCells.add(floor.cells);
            pastTurns.add(floor.turns);
        }

        void forgetPast() {
            pastCells.count = 0;
            pastTurns.count = 0;
        }

        void takeNightBack() {
            int last = pastCells.count - 1;
            if (last < 0 || last >= PAST_MOST) {
                return;
            }
            floor.arrange(pastCells.items[last], (int) pastTurns.items[last]);
            pastCells.count = last;
            pastTurns.count = last;
            nights--;
        }

        boolean hasDraft(int draft) {
            return draft >= 0 && draft < DRAFTS_MOST && (drafts >> draft & 1) == 1;
        }

        void keepDraft(int draft, Floor from) {
            drafts |= 1 << draft;
            draftCells[draft] = from.cells;
            draftTurns[draft] = from.turns;
        }

        int draftCell(int draft, int room) {
            return (int) (draftCells[draft] >> 4 * room) & 15;
        }

        int draftTurn(int draft, int room) {
            return draftTurns[draft] >> 2 * room & 3;
        }
    }

    /** Goes along a text; the first FAULT it is told stays. */
    private static final class Reader {
        private byte[] text = new byte[0];
        private int length = 0;
        int place = 0;
        // Where the word or number read last began.
        int from = 0;
        int fault = 0;

        void open(byte[] text, int length) {
            this.text = text;
            this.length = Math.min(length, text.length);
            place = 0;
            from = 0;
            fault = 0;
        }

        void fail(int where, int sort) {
            if (fault == 0) {
                fault = 1 + 8 * where + sort;
            }
        }

        /** The byte at the place, blanks too; NONE at the end. */
        int here() {
            return place < length ? text[place] & 255 : NONE;
        }

        int skipBlanks() {
            while (place < length && text[place] == ' ') {
                place++;
            }
            return here();
        }

        int readNumber(int least, int most) {
            skipBlanks();
            from = place;
            int value = 0;
            while (place < length && isDigit(text[place])) {
                // Digits beyond the limit are a FAULT; they must not make the value go round.
                value = place - from < DIGITS_MOST ? 10 * value + text[place] - '0' : value;
                place++;
            }
            if (place == from) {
                fail(place, FAULT_SIGN);
            } else if (place - from > DIGITS_MOST || value < least || value > most) {
                fail(from, FAULT_NUMBER);
            }
            return value;
        }

        /** Which of the words (each with a comma behind it) stands here; a FAULT if none does. */
        int readWord(String words) {
            skipBlanks();
            from = place;
            while (place < length && isLetter(text[place])) {
                place++;
            }
            int index = indexOfWord(words);
            if (index == NONE) {
                fail(from, FAULT_SIGN);
            }
            return index;
        }

        private int indexOfWord(String words) {
            int index = 0;
            int at = from;
            boolean same = true;
            for (int i = 0; i < words.length(); i++) {
                char letter = words.charAt(i);
                if (letter != ',') {
                    same = same && at < place && text[at] == letter;
                    at++;
                } else if (same && at == place) {
                    return index;
                } else {
                    index++;
                    at = from;
                    same = true;
                }
            }
            return NONE;
        }

        static boolean isDigit(int sign) {
            return sign >= '0' && sign <= '9';
        }

        static boolean isLetter(int sign) {
            return sign >= 'a' && sign <= 'z';
        }
    }

    /** Reads a PALACE into a house that is not yet lived in. */
    private static final class PalaceReader {
        private static final String CLAUSES = "floor,room,fixed,key,person,ways,";
        private static final int FLOOR_CLAUSE = 0;
        private static final int ROOM_CLAUSE = 1;
        private static final int FIXED_CLAUSE = 2;
        private static final int KEY_CLAUSE = 3;
        private static final int PERSON_CLAUSE = 4;
        private static final int WAYS_CLAUSE = 5;

        private final Reader reader = new Reader();
        private boolean waysTold = false;

        int read(byte[] text, int length, House house) {
            reader.open(text, length);
            waysTold = false;
            house.build(0, 0);
            boolean more = true;
            for (int clause = 0; more && clause <= PALACE_CLAUSES_MOST; clause++) {
                readClause(house, clause);
                more = goesOn();
            }
            return reader.fault;
        }

        private boolean goesOn() {
            if (reader.fault != 0) {
                return false;
            }
            int sign = reader.skipBlanks();
            if (sign == ';') {
                reader.place++;
                return true;
            }
            if (sign != NONE) {
                reader.fail(reader.place, FAULT_SIGN);
            }
            return false;
        }

        private void readClause(House house, int clause) {
            int word = reader.readWord(CLAUSES);
            if (reader.fault != 0) {
                return;
            }
            if (isTooMuch(house, clause, word)) {
                reader.fail(reader.from, FAULT_CLAUSE);
                return;
            }
            switch (word) {
                case FLOOR_CLAUSE:
                    readFloor(house);
                    break;
                case ROOM_CLAUSE:
                    readRoom(house.floor);
                    break;
                case FIXED_CLAUSE:
                    readFixed(house);
                    break;
                case KEY_CLAUSE:
                    readKey(house);
                    break;
                case PERSON_CLAUSE:
                    readPerson(house);
                    break;
                default:
                    house.ways = reader.readNumber(1, ALL_WAYS);
                    waysTold = true;
                    break;
            }
        }

        private boolean isTooMuch(House house, int clause, int word) {
            if (clause >= PALACE_CLAUSES_MOST || (clause == 0) != (word == FLOOR_CLAUSE)) {
                return true;
            }
            if (word == ROOM_CLAUSE) {
                return house.floor.rooms >= ROOMS_MOST;
            }
            if (word == PERSON_CLAUSE) {
                return house.people >= PEOPLE_MOST;
            }
            return word == WAYS_CLAUSE && waysTold;
        }

        private void readFloor(House house) {
            int columns = reader.readNumber(1, SPAN_MOST);
            if (reader.fault != 0) {
                return;
            }
            int rows = reader.readNumber(1, SPAN_MOST);
            if (reader.fault == 0) {
                house.build(columns, rows);
            }
        }

        private void readRoom(Floor floor) {
            reader.skipBlanks();
            for (int side = 0; side < SIDES; side++) {
                int sort = sortOf(reader.here());
                if (sort == NONE) {
                    reader.fail(reader.place, FAULT_SIGN);
                    return;
                }
                floor.sides[SIDES * floor.rooms + side] = sort;
                reader.place++;
            }
            int x = reader.readNumber(0, SPAN_MOST - 1);
            int beginOfX = reader.from;
            if (reader.fault != 0) {
                return;
            }
            int y = reader.readNumber(0, SPAN_MOST - 1);
            if (reader.fault != 0) {
                return;
            }
            int cell = floor.cellAt(x, y);
            if (cell == NONE || floor.roomAt[cell] != NONE) {
                reader.fail(beginOfX, FAULT_CELL);
                return;
            }
            floor.put(floor.rooms, cell, 0);
            floor.rooms++;
        }

        private static int sortOf(int sign) {
            switch (sign) {
                case '.':
                    return WALL;
                case 'd':
                    return DOOR;
                case 'w':
                    return WINDOW;
                default:
                    return sign >= '1' && sign <= '4' ? FIRST_LOCK + sign - '1' : NONE;
            }
        }

        private void readFixed(House house) {
            int room = reader.readNumber(0, house.floor.rooms - 1);
            if (reader.fault == 0) {
                house.fixed |= 1 << room;
            }
        }

        private void readKey(House house) {
            int key = reader.readNumber(1, KEYS_MOST);
            if (reader.fault != 0) {
                return;
            }
            int room = reader.readNumber(0, house.floor.rooms - 1);
            if (reader.fault == 0) {
                house.keyRoom[key] = room;
            }
        }

        private void readPerson(House house) {
            int room = reader.readNumber(0, house.floor.rooms - 1);
            if (reader.fault == 0) {
                house.bedOf[house.people] = room;
                house.people++;
            }
        }
    }

    /** Turns a RULE into values and what is done to them, in the order in which it is done. */
    private static final class RuleReader {
        private static final String VALUES = "kind,room,other,x,y,tox,toy,doors,locks,people,night,faults,after,";
        private static final String VALUES_OR_NOT =
                "kind,room,other,x,y,tox,toy,doors,locks,people,night,faults,after,not,";
        private static final int NOT_INDEX = 13;
        private static final String JOINTS = "and,or,";

        // What may come next.
        private static final int WANT_BAR = 0;
        private static final int WANT_FACT = 1;
        private static final int WANT_VALUE = 2;
        private static final int BEHIND_LEFT = 3;
        private static final int BEHIND_RIGHT = 4;
        private static final int BEHIND_BRACKET = 5;

        private final Reader reader = new Reader();
        private final int[] code = new int[TAPE_MOST + 1];
        private int length = 0;
        // What was read, but can't be done yet, for it binds less than what may follow.
        private final int[] waiting = new int[OPERATORS_MOST];
        private int waits = 0;
        private int stage = WANT_BAR;
        private boolean compared = false;
        private int clauses = 0;
        private int depth = 0;
        private int brackets = 0;
        private int counted = 0;

        int read(byte[] text, int textLength) {
            reader.open(text, textLength);
            length = 0;
            waits = 0;
            stage = WANT_BAR;
            compared = false;
            clauses = 0;
            depth = 0;
            brackets = 0;
            counted = 0;
            boolean more = true;
            // Each round but the last one reads a byte at least.
            for (int round = 0; round <= TAPE_MOST && more; round++) {
                more = readNext(reader.skipBlanks()) && reader.fault == 0;
            }
            return reader.fault;
        }

        void copyTo(int[] program) {
            Arrays.fill(program, STOP);
            System.arraycopy(code, 0, program, 0, Math.min(length, program.length));
        }

        private boolean readNext(int sign) {
            switch (stage) {
                case WANT_BAR:
                    readBar();
                    return true;
                case WANT_FACT:
                    readFact(sign);
                    return true;
                case WANT_VALUE:
                    readValue(sign, VALUES);
                    return true;
                default:
                    return readBehind(sign);
            }
        }

        private void readBar() {
            reader.readWord("bar,");
            if (clauses >= RULE_CLAUSES_MOST) {
                reader.fail(reader.from, FAULT_CLAUSE);
            }
            clauses++;
            stage = WANT_FACT;
        }

        private void readFact(int sign) {
            compared = false;
            if (sign == '[') {
                deepen(OPEN, reader.place);
                brackets++;
                reader.place++;
            } else {
                readValue(sign, VALUES_OR_NOT);
            }
        }

        private void deepen(int operator, int place) {
            if (depth >= DEPTH_MOST) {
                reader.fail(place, FAULT_DEPTH);
                return;
            }
            depth++;
            hold(operator);
        }

        private void readValue(int sign, String words) {
            int value;
            if (Reader.isLetter(sign)) {
                int word = reader.readWord(words);
                if (word == NOT_INDEX) {
                    deepen(NOT, reader.from);
                    return;
                }
                value = FIRST_WORD + word;
            } else {
                value = FIRST_NUMBER + reader.readNumber(0, 99999);
            }
            countOne(reader.from);
            emit(value);
            stage = compared ? BEHIND_RIGHT : BEHIND_LEFT;
        }

        private void countOne(int place) {
            if (counted >= COUNTED_MOST) {
                reader.fail(place, FAULT_COUNT);
            }
            counted++;
        }

        private boolean readBehind(int sign) {
            int operator = stage == BEHIND_BRACKET ? NONE : arithmeticOf(sign);
            if (operator != NONE) {
                reader.place++;
                join(operator);
                stage = WANT_VALUE;
                return true;
            }
            if (stage == BEHIND_LEFT) {
                readComparison(sign);
                return true;
            }
            if (Reader.isLetter(sign)) {
                join(reader.readWord(JOINTS) == 0 ? AND : OR);
                stage = WANT_FACT;
                return true;
            }
            return readClosing(sign);
        }

        private static int arithmeticOf(int sign) {
            switch (sign) {
                case '+':
                    return PLUS;
                case '-':
                    return MINUS;
                case '*':
                    return TIMES;
                case '/':
                    return OVER;
                case '%':
                    return REST;
                default:
                    return NONE;
            }
        }

        private void readComparison(int sign) {
            int place = reader.place;
            if (sign != '<' && sign != '=' && sign != '>') {
                reader.fail(place, FAULT_SIGN);
                return;
            }
            reader.place++;
            boolean orEqual = sign != '=' && reader.here() == '=';
            if (orEqual) {
                reader.place++;
            }
            countOne(place);
            if (sign == '<') {
                join(orEqual ? LESS_OR_EQUAL : LESS);
            } else if (sign == '>') {
                join(orEqual ? MORE_OR_EQUAL : MORE);
            } else {
                join(EQUAL);
            }
            compared = true;
            stage = WANT_VALUE;
        }

        private boolean readClosing(int sign) {
            if (sign == ']' && brackets > 0) {
                reader.place++;
                release(RANKS[OR]);
                brackets--;
                depth--;
                waits = Math.max(0, waits - 1);
                stage = BEHIND_BRACKET;
                return true;
            }
            if (brackets > 0 || sign != ';' && sign != NONE) {
                reader.fail(reader.place, FAULT_SIGN);
                return false;
            }
            release(RANKS[OR]);
            if (clauses > 1) {
                emit(OR);
            }
            if (sign == ';') {
                reader.place++;
            }
            stage = WANT_BAR;
            return sign == ';';
        }

        private void join(int operator) {
            release(RANKS[operator]);
            hold(operator);
        }

        private void release(int rank) {
            while (waits > 0 && RANKS[waiting[waits - 1]] >= rank) {
                waits--;
                depth -= waiting[waits] == NOT ? 1 : 0;
                emit(waiting[waits]);
            }
        }

        private void hold(int operator) {
            if (waits < waiting.length) {
                waiting[waits] = operator;
                waits++;
            }
        }

        private void emit(int operation) {
            if (length < TAPE_MOST) {
                code[length] = operation;
                length++;
            }
        }
    }

    /** Which WALKS may be on a floor, by the laws of a house. */
    private static final class Laws {
        private House house = null;
        private Floor floor = null;
        private int[] rule = null;
        // MISMATCHES are dear to count; without a law of meeting and a RULE nobody asks for them.
        private boolean counts = false;
        int night = 0;
        int faults = 0;
        private int after = 0;
        private final long[] stack = new long[OPERANDS_MOST];

        void open(House house, Floor floor, int[] rule) {
            this.house = house;
            this.floor = floor;
            this.rule = rule;
            counts = house.law != 0 || rule != null;
            night = house.nights;
            look();
        }

        /** To be called when the floor has become another one. */
        void look() {
            faults = counts && floor != null ? floor.mismatches() : 0;
        }

        /** The number of the first law that a WALK breaks; 0 if it may be. */
        int broken(int walk) {
            if (house == null || floor == null) {
                return LAW_WAYS;
            }
            int kind = walk >> 8;
            int room = walk >> 4 & 15;
            int other = kind == CHANGE ? walk & 15 : room;
            if ((house.ways >> kind - 1 & 1) == 0 || house.isFixed(room) || house.isFixed(other)) {
                return LAW_WAYS;
            }
            if (!floor.canGo(walk)) {
                return LAW_PLACE;
            }
            if (!counts) {
                return 0;
            }
            after = faults + floor.gain(walk);
            if (house.law == NO_MORE && after > faults || house.law == NO_MISMATCH && after > 0) {
                return LAW_MEETING;
            }
            return rule != null && isBarred(walk) ? LAW_RULE : 0;
        }

        /** WALKS that may be, in their order: how many. */
        int list(int[] into) {
            int rooms = floor == null ? 0 : floor.rooms;
            int count = 0;
            for (int room = 0; room < rooms; room++) {
                for (int side = 0; side < SIDES; side++) {
                    int walk = SLIDE << 8 | room << 4 | side;
                    if (broken(walk) == 0 && count < into.length) {
                        into[count] = walk;
                        count++;
                    }
                }
            }
            for (int room = 0; room < rooms; room++) {
                for (int other = room + 1; other < rooms; other++) {
                    int walk = CHANGE << 8 | room << 4 | other;
                    if (broken(walk) == 0 && count < into.length) {
                        into[count] = walk;
                        count++;
                    }
                }
            }
            for (int room = 0; room < rooms; room++) {
                int walk = TURN << 8 | room << 4;
                if (broken(walk) == 0 && count < into.length) {
                    into[count] = walk;
                    count++;
                }
            }
            return count;
        }

        private boolean isBarred(int walk) {
            int top = 0;
            for (int i = 0; i < rule.length && rule[i] != STOP; i++) {
                int operation = rule[i];
                if (operation >= FIRST_WORD && top < stack.length) {
                    stack[top] = operation >= FIRST_NUMBER
                            ? operation - FIRST_NUMBER : valueOf(operation - FIRST_WORD, walk);
                    top++;
                } else if (operation == NOT && top > 0) {
                    stack[top - 1] = stack[top - 1] == 0 ? 1 : 0;
                } else if (top > 1) {
                    top--;
                    stack[top - 1] = combine(operation, stack[top - 1], stack[top]);
                }
            }
            return top > 0 && stack[top - 1] != 0;
        }

        private long valueOf(int word, int walk) {
            int kind = walk >> 8;
            int room = walk >> 4 & 15;
            switch (word) {
                case 0:
                    return kind;
                case 1:
                    return room;
                case 2:
                    return kind == CHANGE ? walk & 15 : NO_OTHER;
                case 3:
                    return floor.cellOf[room] & 3;
                case 4:
                    return floor.cellOf[room] >> 2;
                case 5:
                    return goal(kind, room, walk & 15) & 3;
                case 6:
                    return goal(kind, room, walk & 15) >> 2;
                case 7:
                    return floor.doorsOf(room);
                case 8:
                    return floor.locksOf(room);
                case 9:
                    return Integer.bitCount(house.sleepersIn(room));
                case 10:
                    return night;
                case 11:
                    return faults;
                default:
                    return after;
            }
        }

        private int goal(int kind, int room, int other) {
            if (kind == SLIDE) {
                return floor.next[SIDES * floor.cellOf[room] + other];
            }
            return floor.cellOf[kind == CHANGE ? other : room];
        }

        private static long combine(int operator, long a, long b) {
            switch (operator) {
                case OR:
                    return a | b;
                case AND:
                    return a & b;
                case LESS:
                    return a < b ? 1 : 0;
                case LESS_OR_EQUAL:
                    return a <= b ? 1 : 0;
                case EQUAL:
                    return a == b ? 1 : 0;
                case MORE_OR_EQUAL:
                    return a >= b ? 1 : 0;
                case MORE:
                    return a > b ? 1 : 0;
                case PLUS:
                    return a + b;
                case MINUS:
                    return a - b;
                case TIMES:
                    return a * b;
                case OVER:
                    return b == 0 ? 0 : a / b;
                default:
                    return b == 0 ? 0 : a % b;
            }
        }
    }

    /** The fewest NIGHTS to a DRAFT, and MARKS that show that it can't be. */
    private static final class Search {
        private static final int MARK_FIXED = 1;
        private static final int MARK_TURNED = 2;
        private static final int MARK_MOVED = 4;
        private static final int MARK_ODD = 8;

        // SITUATIONS in the order in which they came, and from which each came by which WALK.
        private final long[] cells = new long[SITUATIONS_MOST];
        private final int[] turns = new int[SITUATIONS_MOST];
        private final int[] from = new int[SITUATIONS_MOST];
        private final int[] by = new int[SITUATIONS_MOST];
        private int count = 0;
        // Holds 1 + the number of a SITUATION, 0 where there is none.
        private final int[] table = new int[TABLE];
        private final int[] list = new int[WALKS_MOST];
        private final Floor floor = new Floor();
        private final Laws laws = new Laws();
        private int askedAt = NONE;
        private int askedDraft = NONE;

        int answer = 0;
        final int[] path = new int[SITUATIONS_MOST];

        void ask(House house, int[] rule, int draft, int changes) {
            if (askedAt == changes && askedDraft == draft) {
                return;
            }
            askedAt = changes;
            askedDraft = draft;
            floor.copyFrom(house.floor);
            laws.open(house, floor, rule);
            answer = find(house.draftCells[draft], house.draftTurns[draft]);
        }

        private int find(long wantedCells, int wantedTurns) {
            if (floor.cells == wantedCells && floor.turns == wantedTurns) {
                return 0;
            }
            Arrays.fill(table, 0);
            count = 0;
            add(floor.cells, floor.turns, NONE, NONE);
            for (int i = 0; i < count && i < SITUATIONS_MOST; i++) {
                floor.arrange(cells[i], turns[i]);
                laws.look();
                int many = laws.list(list);
                for (int k = 0; k < many; k++) {
                    floor.go(list[k]);
                    long comesCells = floor.cells;
                    int comesTurns = floor.turns;
                    floor.goBack(list[k]);
                    if (comesCells == wantedCells && comesTurns == wantedTurns) {
                        return trace(i, list[k]);
                    }
                    if (!add(comesCells, comesTurns, i, list[k])) {
                        return UNKNOWN;
                    }
                }
            }
            return REFUSED;
        }

        /** False if it is a new SITUATION and there is no more room for one. */
        private boolean add(long newCells, int newTurns, int cameFrom, int cameBy) {
            long mixed = (newCells * 31 + newTurns) * 0x9E3779B97F4A7C15L;
            int slot = (int) (mixed >>> 52);
            for (int probe = 0; probe < TABLE && table[slot] != 0; probe++) {
                int known = table[slot] - 1;
                if (cells[known] == newCells && turns[known] == newTurns) {
                    return true;
                }
                slot = slot + 1 & TABLE - 1;
            }
            if (count >= SITUATIONS_MOST) {
                return false;
            }
            cells[count] = newCells;
            turns[count] = newTurns;
            from[count] = cameFrom;
            by[count] = cameBy;
            count++;
            table[slot] = count;
            return true;
        }

        private int trace(int last, int walk) {
            int length = 1;
            for (int i = last; i > 0 && length < path.length; i = from[i]) {
                length++;
            }
            path[length - 1] = walk;
            int i = last;
            for (int k = length - 2; k >= 0 && i > 0; k--) {
                path[k] = by[i];
                i = from[i];
            }
            return length;
        }

        int marksOf(House house, int draft) {
            int marks = 0;
            for (int room = 0; room < house.floor.rooms; room++) {
                boolean moved = house.draftCell(draft, room) != house.floor.cellOf[room];
                boolean turned = house.draftTurn(draft, room) != house.floor.turnOf[room];
                marks |= (moved || turned) && house.isFixed(room) ? MARK_FIXED : 0;
                marks |= turned && (house.ways & WAY_TURN) == 0 ? MARK_TURNED : 0;
                marks |= moved && (house.ways & (WAY_SLIDE | WAY_CHANGE)) == 0 ? MARK_MOVED : 0;
            }
            if ((house.ways & WAY_CHANGE) == 0 && house.floor.emptyCells() == 1 && isOdd(house, draft)) {
                marks |= MARK_ODD;
            }
            return marks;
        }

        /** Each SLIDE is one change of places, and takes the EMPTY CELL one CELL on. */
        private boolean isOdd(House house, int draft) {
            floor.copyFrom(house.floor);
            floor.arrange(house.draftCells[draft], house.draftTurns[draft]);
            int emptyNow = emptyCell(house.floor);
            int emptyThen = emptyCell(floor);
            int odd = (emptyNow & 3) + (emptyNow >> 2) + (emptyThen & 3) + (emptyThen >> 2);
            int rooms = house.floor.rooms;
            // Things that lie in another order than before, by twos, are odd if changes of places were.
            for (int one = 0; one < rooms; one++) {
                int oneNow = house.floor.cellOf[one];
                int oneThen = floor.cellOf[one];
                odd += oneNow < emptyNow != oneThen < emptyThen ? 1 : 0;
                for (int other = 0; other < one; other++) {
                    boolean before = oneNow < house.floor.cellOf[other];
                    odd += before != oneThen < floor.cellOf[other] ? 1 : 0;
                }
            }
            return (odd & 1) == 1;
        }

        private static int emptyCell(Floor floor) {
            for (int cell = 0; cell < CELLS; cell++) {
                if (floor.isEmptyCell(cell)) {
                    return cell;
                }
            }
            return 0;
        }
    }

    /** NIGHTS tried out on a floor of their own: almanacs, rows of WALKS, draws. */
    private static final class Trials {
        final Floor floor = new Floor();
        private final Laws laws = new Laws();
        int leftOut = 0;

        private final int[][] lists = new int[ROW_MOST][WALKS_MOST];
        private final int[] places = new int[ROW_MOST];
        final int[] first = new int[ROW_MOST];
        // Rows, and SLIDES, CHANGES and TURNS in them.
        final int[] totals = new int[TURN + 1];
        private int askedAt = NONE;
        private int askedLength = NONE;

        int drawnMismatches = 0;
        int drawnMeetings = 0;
        int drawnWalks = 0;

        private void begin(House house, int[] rule) {
            floor.copyFrom(house.floor);
            laws.open(house, floor, rule);
            leftOut = 0;
        }

        private void liveOne(int walk) {
            if (laws.broken(walk) == 0) {
                floor.go(walk);
                laws.look();
            } else {
                leftOut++;
            }
            laws.night++;
        }

        void liveTo(House house, int[] rule, int nights) {
            begin(house, rule);
            for (int k = 0; k < nights && k < house.almanac.count; k++) {
                liveOne((int) house.almanac.items[k]);
            }
        }

        /** Of each PERSON the ROOMS, as bits, by which his own WISHES are so. */
        void roomsWished(House house, int[] rule, int[] may) {
            begin(house, rule);
            Arrays.fill(may, (1 << house.floor.rooms) - 1);
            for (int night = 0; night <= ALMANAC_MOST; night++) {
                boolean comes = night <= house.almanac.count;
                if (comes && night > 0) {
                    liveOne((int) house.almanac.items[night - 1]);
                }
                for (int k = 0; k < house.wishes.count; k++) {
                    int wish = (int) house.wishes.items[k];
                    if ((wish >> 4 & 15) == night) {
                        int there = floor.roomAt[wish & 15];
                        may[wish >> 8] &= comes && there != NONE ? 1 << there : 0;
                    }
                }
            }
        }

        boolean redraws(House house, int draft, int walk) {
            floor.copyFrom(house.floor);
            floor.arrange(house.draftCells[draft], house.draftTurns[draft]);
            if (walk >> 8 == SLIDE && !floor.canGo(walk)) {
                return false;
            }
            floor.go(walk);
            return true;
        }

        void askRows(House house, int[] rule, int length, int changes) {
            if (askedAt == changes && askedLength == length) {
                return;
            }
            askedAt = changes;
            askedLength = length;
            begin(house, rule);
            Arrays.fill(totals, 0);
            goRows(house, 0, length);
        }

        private void goRows(House house, int level, int length) {
            if (level >= length || level >= ROW_MOST) {
                if (isAsTheyWoke(house)) {
                    tally(length);
                }
                return;
            }
            int[] list = lists[level];
            int many = laws.list(list);
            for (int k = 0; k < many; k++) {
                places[level] = k;
                floor.go(list[k]);
                if (level + 1 < length) {
                    laws.look();
                }
                goRows(house, level + 1, length);
                floor.goBack(list[k]);
            }
        }

        private boolean isAsTheyWoke(House house) {
            for (int k = 0; k < house.woken.count; k++) {
                int told = (int) house.woken.items[k];
                if (floor.cellOf[told >> 4] != (told & 15)) {
                    return false;
                }
            }
            return true;
        }

        private void tally(int length) {
            totals[0]++;
            for (int level = 0; level < length && level < ROW_MOST; level++) {
                totals[lists[level][places[level]] >> 8]++;
                if (totals[0] == 1) {
                    first[level] = places[level];
                }
            }
        }

        void drawTimes(House house, int[] rule, int times, int nights, int one, int other) {
            drawnMismatches = 0;
            drawnMeetings = 0;
            drawnWalks = 0;
            long x = house.seed;
            for (int time = 0; time < times; time++) {
                begin(house, rule);
                for (int night = 0; night < nights; night++) {
                    int many = laws.list(lists[0]);
                    if (many > 0) {
                        x = x * 1103515245L + 12345L & 0x7FFFFFFFL;
                        floor.go(lists[0][(int) (x / 65536 % many)]);
                        laws.look();
                        drawnWalks++;
                    }
                    laws.night++;
                }
                drawnMismatches += floor.mismatches();
                drawnMeetings += floor.doorToDoor(one, other) ? 1 : 0;
            }
        }
    }

    /** What doors lead to by day. */
    private static final class Day {
        private static final int KEY_SETS = 32;

        // Of each ROOM and set of KEYS the fewest steps to be there with these, or NONE.
        private final int[] steps = new int[ROOMS_MOST * KEY_SETS];
        private final int[] queue = new int[ROOMS_MOST * KEY_SETS];
        private int tail = 0;
        private final int[] behindDoors = new int[ROOMS_MOST];

        void spread(House house, int start) {
            Arrays.fill(steps, NONE);
            tail = 0;
            come(start, house.keysIn(start), 0);
            for (int head = 0; head < tail && head < queue.length; head++) {
                int room = queue[head] / KEY_SETS;
                int keys = queue[head] % KEY_SETS;
                for (int side = 0; side < SIDES; side++) {
                    int there = house.floor.throughDoor(room, side);
                    if (there != NONE && (house.floor.locksBetween(room, side, there) & ~keys) == 0) {
                        come(there, keys | house.keysIn(there), steps[queue[head]] + 1);
                    }
                }
            }
        }

        private void come(int room, int keys, int step) {
            int spot = KEY_SETS * room + keys;
            if (steps[spot] == NONE && tail < queue.length) {
                steps[spot] = step;
                queue[tail] = spot;
                tail++;
            }
        }

        int fewest(int room) {
            // The queue is in the order of steps.
            for (int i = 0; i < tail; i++) {
                if (queue[i] / KEY_SETS == room) {
                    return steps[queue[i]];
                }
            }
            return REFUSED;
        }

        int reachedRooms() {
            int rooms = 0;
            for (int i = 0; i < tail; i++) {
                rooms |= 1 << queue[i] / KEY_SETS;
            }
            return rooms;
        }

        int reachedKeys() {
            int keys = 0;
            for (int i = 0; i < tail; i++) {
                keys |= queue[i] % KEY_SETS;
            }
            return keys;
        }

        int hearing(House house, int room, int n) {
            int heard = 1 << room;
            for (int step = 0; step < n; step++) {
                int more = heard;
                for (int from = 0; from < house.floor.rooms; from++) {
                    if ((heard >> from & 1) == 1) {
                        more |= besides(house.floor, from, false);
                    }
                }
                heard = more;
            }
            return heard;
        }

        private int besides(Floor floor, int room, boolean lockedToo) {
            int rooms = 0;
            for (int side = 0; side < SIDES; side++) {
                int there = floor.throughDoor(room, side);
                if (there != NONE && (lockedToo || floor.locksBetween(room, side, there) == 0)) {
                    rooms |= 1 << there;
                }
            }
            return rooms;
        }

        int guarding(Floor floor) {
            for (int room = 0; room < floor.rooms; room++) {
                behindDoors[room] = besides(floor, room, true);
            }
            int best = (1 << floor.rooms) - 1;
            for (int set = best; set >= 0; set--) {
                // From the greatest set down, so that of several as small the least stays.
                if (Integer.bitCount(set) <= Integer.bitCount(best) && isGuarded(floor.rooms, set)) {
                    best = set;
                }
            }
            return best;
        }

        private boolean isGuarded(int rooms, int set) {
            for (int room = 0; room < rooms; room++) {
                if ((set >> room & 1) == 0 && (behindDoors[room] & ~set) != 0) {
                    return false;
                }
            }
            return true;
        }
    }

    /** In how many ways ROOMS can be laid on CELLS, and PEOPLE into ROOMS. */
    private static final class Layings {
        private final Floor floor = new Floor();
        private int tries = 0;
        private int found = 0;
        private boolean unknown = false;

        // Of each PERSON the ROOMS that he may have, as bits.
        final int[] may = new int[PEOPLE_MOST];
        // Of each set of PEOPLE in how many ways it has beds.
        private final int[] bedded = new int[1 << PEOPLE_MOST];

        int layRooms(House house) {
            tries = 0;
            found = 0;
            unknown = false;
            floor.copyFrom(house.floor);
            for (int room = 0; room < floor.rooms; room++) {
                if (!house.isFixed(room)) {
                    floor.take(room);
                }
            }
            for (int room = 0; room < floor.rooms; room++) {
                if (house.isFixed(room) && !floor.fits(room)) {
                    // No TRY would be gone on from, and one ROOM alone has few.
                    return 0;
                }
            }
            layFrom(house, 0);
            return unknown ? UNKNOWN : found;
        }

        private void layFrom(House house, int from) {
            int room = from;
            while (room < floor.rooms && house.isFixed(room)) {
                room++;
            }
            if (room >= floor.rooms) {
                found += floor.mismatches() == 0 ? 1 : 0;
                return;
            }
            boolean turns = (house.ways & WAY_TURN) != 0;
            for (int cell = 0; cell < CELLS; cell++) {
                for (int turn = 0; turn < SIDES && floor.isEmptyCell(cell); turn++) {
                    if (turns || turn == house.floor.turnOf[room]) {
                        layOne(house, room, cell, turn);
                    }
                }
                if (unknown) {
                    return;
                }
            }
        }

        private void layOne(House house, int room, int cell, int turn) {
            if (tries >= TRIES_MOST) {
                unknown = true;
                return;
            }
            tries++;
            floor.put(room, cell, turn);
            if (floor.fits(room)) {
                layFrom(house, room + 1);
            }
            floor.take(room);
        }

        int layPeople(House house) {
            Arrays.fill(bedded, 0);
            bedded[0] = 1;
            int all = (1 << house.people) - 1;
            for (int room = 0; room < house.floor.rooms; room++) {
                // From the greatest set down, so that a ROOM is given away once.
                for (int set = all; set >= 0; set--) {
                    for (int person = 0; person < house.people && bedded[set] > 0; person++) {
                        if ((set >> person & 1) == 0 && (may[person] >> room & 1) == 1) {
                            bedded[set | 1 << person] += bedded[set];
                        }
                    }
                }
            }
            return bedded[all];
        }

        int firstBed(House house, int person) {
            for (int other = 0; other <= person; other++) {
                int could = may[other];
                int bed = NONE;
                for (int room = 0; room < house.floor.rooms && bed == NONE; room++) {
                    may[other] = could & 1 << room;
                    bed = layPeople(house) > 0 ? room : NONE;
                }
                if (bed == NONE) {
                    return REFUSED;
                }
                if (other == person) {
                    return bed;
                }
            }
            return REFUSED;
        }
    }
}

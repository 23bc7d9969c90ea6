import java.math.BigInteger;
import java.util.ArrayList;
import java.util.Arrays;
import java.util.HashSet;
import java.util.List;
import java.util.Set;

/** The sentences of the document's third part (what is asked) that name a boundary case. */
public final class EdgesOfQuestionsTest {
    private static final int NONE = WalkingRooms.NONE;
    private static final String SIGNS = ".dw1234";

    private static WalkingRooms with(String palace) {
        WalkingRooms x = new WalkingRooms();
        Due.is("palace " + palace, Texts.palace(x, palace) >= 0, true);
        return x;
    }

    private static WalkingRooms with(String palace, String rule) {
        WalkingRooms x = with(palace);
        Due.is("rule " + rule, Texts.rule(x, rule), 0);
        x.force(0);
        return x;
    }

    // ---- FLOORS

    private static void floors() {
        Due.says("ways to lay all ROOMS on unlike CELLS without a MISMATCH");
        Due.is("no ROOMS", with("floor 4 4").floors(), 1);
        Due.is("one of sixteen", with("floor 4 4;room .... 0 0;ways 3").floors(), 16);
        Due.is("two of sixteen", with("floor 4 4;room .... 0 0;room .... 1 0;ways 3").floors(), 240);
        Due.is("all of four", with("floor 2 2;room .... 0 0;room .... 1 0;room .... 0 1;room .... 1 1;ways 3").floors(), 24);
        Due.is("a door that meets none", with("floor 2 2;room ..d. 0 0;room .... 1 0;ways 3").floors(), 0);
        Due.is("a door that can meet one", with("floor 2 2;room ..d. 0 0;room d... 1 1;ways 3").floors(), 2);
        Due.is("locked ones are doors", with("floor 2 2;room ..1. 0 0;room 4... 1 1;ways 3").floors(), 2);
        Due.is("windows may face the edge", with("floor 1 2;room w.w. 0 0;room w.w. 0 1;ways 3").floors(), 2);
        Due.is("a window and a wall may not meet", with("floor 1 2;room ..w. 0 0;room .... 0 1;ways 3").floors(), 1);
        Due.says("others turned as one likes, if TURNS are among the ways, else as they are");
        for (int ways = 1; ways <= 7; ways++) {
            WalkingRooms x = with("floor 2 1;room .d.. 0 0;room .d.. 1 0;ways " + ways);
            Due.is("ways " + ways, x.floors(), ways >= 4 ? 2 : 0);
            x = with("floor 3 1;room .... 0 0;ways " + ways);
            Due.is("ways " + ways, x.floors(), ways >= 4 ? 12 : 3);
        }
        Due.says("fixed ones where they are, as they are");
        WalkingRooms x = with("floor 3 1;room d... 1 0;room .d.. 0 0");
        Due.is("none is fixed", x.floors(), 4);
        x.fix(0, true);
        Due.is("its door faces the edge", x.floors(), 0);
        x.fix(0, false);
        x.walk(3, 0, 0);
        x.fix(0, true);
        Due.is("turned by one it meets the right one", x.floors(), 1);
        x.fix(1, true);
        Due.is("both where they do not meet", x.floors(), 0);
        x.fix(1, false);
        x.fix(0, false);
        x.walk(3, 0, 0);
        x.walk(3, 0, 0);
        x.fix(0, true);
        x.fix(1, true);
        Due.is("both, door to door", x.floors(), 1);
        x.fix(0, false);
        Due.is("the other one alone", x.floors(), 1);
        x.brick(1, 1, 0);
        Due.is("a door that meets no door", x.floors(), 0);
        x.brick(0, 3, 0);
        Due.is("no doors", x.floors(), 8);
        tries();
    }

    private static void tries() {
        Due.says("20000 TRIES at most: if one more would come, it is UNKNOWN");
        String four = "floor 4 4;room .... 0 0;room .... 1 0;room .... 2 0;room .... 3 0";
        WalkingRooms x = with(four + ";ways 3");
        Due.is("16 + 240 + 3360 + 43680", x.floors(), -3);
        x.fix(3, true);
        Due.is("15 + 210 + 2730", x.floors(), 2730);
        x.fix(3, false);
        Due.is("asked again", x.floors(), -3);
        x.fix(0, true);
        Due.is("15 + 210 + 2730", x.floors(), 2730);
        // 13 and 14 CELLS of one turn for each ROOM: 14 + 14 * 13 + 14 * 13 * 12 + 14 * 13 * 12 * 11 is above 20000.
        x = with("floor 4 3;room .... 0 0;room .... 1 0;room .... 2 0;room .... 3 0;ways 3");
        Due.is("12 + 132 + 1320 + 11880", x.floors(), 11880);
        x = with("floor 4 3;room .... 0 0;room .... 1 0;room .... 2 0;ways 7");
        Due.is("48 + 48 * 44 + 48 * 44 * 40", x.floors(), -3);
        Due.says("it is gone on from, if no two SIDES of ROOMS laid so far (the fixed ones from the start) are unlike");
        // Seven ROOMS more would be far too many TRIES, but none is gone on from: 4 * 9 TRIES.
        String many = ";room .... 0 2;room .... 1 2;room .... 2 2;room .... 3 2;room .... 0 3;room .... 1 3;room .... 2 3";
        Due.is("two fixed ones that are unlike", with("floor 4 4;room .d.. 0 0;room .... 1 0" + many
                + ";fixed 0;fixed 1").floors(), 0);
        Due.is("told last", with("floor 4 4" + many + ";room .... 1 0;room ...w 2 0;fixed 7;fixed 8").floors(), 0);
        Due.says("and no door of these faces the edge");
        Due.is("a fixed one", with("floor 4 4;room d... 0 0" + many + ";fixed 0").floors(), 0);
        Due.is("a fixed one", with("floor 4 4;room ...3 0 0" + many + ";fixed 0").floors(), 0);
        Due.is("told last", with("floor 4 4" + many + ";room .d.. 3 1;fixed 7").floors(), 0);
        Due.is("a door to an EMPTY CELL may yet meet one", with("floor 4 4;room .d.. 0 0" + many + ";fixed 0").floors(), -3);
        Due.is("each ROOM laid first", with("floor 1 4;room .d.. 0 0;room .... 0 1;room .... 0 2;room .... 0 3").floors(), 0);
        triesAtTheLimit();
    }

    /** Three ROOMS without doors on a row of CELLS, and a fourth that fits only there where it is counted. */
    private static void triesAtTheLimit() {
        Due.says("a ROOM laid on a CELL with a turn is a TRY");
        for (int columns = 1; columns <= 4; columns++) {
            for (int rows = 1; rows <= 4; rows++) {
                for (int rooms = 1; rooms <= Math.min(6, columns * rows); rooms++) {
                    for (int ways = 3; ways <= 7; ways += 4) {
                        floorsOf(columns, rows, rooms, ways);
                    }
                }
            }
        }
    }

    private static void floorsOf(int columns, int rows, int rooms, int ways) {
        StringBuilder palace = new StringBuilder("floor " + columns + " " + rows + ";ways " + ways);
        long tries = 0;
        long laid = 1;
        for (int room = 0; room < rooms; room++) {
            palace.append(";room .... ").append(room % columns).append(' ').append(room / columns);
            laid *= (long) (columns * rows - room) * (ways == 7 ? 4 : 1);
            tries += laid;
        }
        Due.is(palace + ": floors()", with(palace.toString()).floors(), tries > 20000 ? -3 : laid);
    }

    // ---- NIGHTS to a DRAFT

    /** A floor (CELLS, then turns, by ROOMS), the one it came from first, and by which WALK. */
    private record Came(int[] floor, Came from, int[] walk, int nights) {
    }

    private static void redraw(WalkingRooms x, int draft, Came came) {
        if (came.from != null) {
            redraw(x, draft, came.from);
            Due.is("redrawn", x.redraw(draft, came.walk[0], came.walk[1], came.walk[2]), true);
        }
    }

    /** All floors that come from the first one by WALKS of some ways without laws, in their order; at most some. */
    private static List<Came> order(int[] cells, int columns, int rows, int ways, int most) {
        int n = cells.length;
        List<Came> all = new ArrayList<>();
        Set<String> known = new HashSet<>();
        all.add(new Came(Arrays.copyOf(cells, 2 * n), null, null, 0));
        known.add(Arrays.toString(all.get(0).floor));
        for (int k = 0; k < all.size() && all.size() < most; k++) {
            for (Came next : following(all.get(k), n, columns, rows, ways)) {
                if (known.add(Arrays.toString(next.floor))) {
                    all.add(next);
                }
            }
        }
        return all;
    }

    private static List<Came> following(Came came, int n, int columns, int rows, int ways) {
        List<Came> all = new ArrayList<>();
        int[] now = came.floor;
        int[] dx = {0, 1, 0, -1};
        int[] dy = {-1, 0, 1, 0};
        for (int room = 0; room < n && (ways & 1) > 0; room++) {
            for (int side = 0; side < 4; side++) {
                int x = now[room] % 4 + dx[side];
                int y = now[room] / 4 + dy[side];
                boolean empty = x >= 0 && y >= 0 && x < columns && y < rows;
                for (int other = 0; other < n; other++) {
                    empty &= now[other] != 4 * y + x;
                }
                if (empty) {
                    int[] next = now.clone();
                    next[room] = 4 * y + x;
                    all.add(new Came(next, came, new int[] {1, room, side}, came.nights + 1));
                }
            }
        }
        for (int room = 0; room < n && (ways & 2) > 0; room++) {
            for (int other = room + 1; other < n; other++) {
                int away = Math.abs(now[room] % 4 - now[other] % 4) + Math.abs(now[room] / 4 - now[other] / 4);
                if (away == 1) {
                    int[] next = now.clone();
                    next[room] = now[other];
                    next[other] = now[room];
                    all.add(new Came(next, came, new int[] {2, room, other}, came.nights + 1));
                }
            }
        }
        for (int room = 0; room < n && (ways & 4) > 0; room++) {
            int[] next = now.clone();
            next[n + room] = (next[n + room] + 1) % 4;
            all.add(new Came(next, came, new int[] {3, room, 0}, came.nights + 1));
        }
        return all;
    }

    private static void nightsTo(int columns, int rows, int rooms, int ways) {
        StringBuilder palace = new StringBuilder("floor " + columns + " " + rows + ";ways " + ways);
        int[] cells = new int[rooms];
        for (int room = 0; room < rooms; room++) {
            cells[room] = 4 * (room / columns) + room % columns;
            palace.append(";room .... ").append(room % columns).append(' ').append(room / columns);
        }
        List<Came> order = order(cells, columns, rows, ways, 1600);
        for (int k : new int[] {0, 1, 2, 40, 333, 719, 1000, 1440, 1498, 1499, 1500, 1501, 1502, 1550}) {
            if (k < order.size()) {
                WalkingRooms x = with(palace.toString());
                x.draft(2);
                redraw(x, 2, order.get(k));
                int nights = order.get(k).nights;
                Due.is(palace + ", the DRAFT comes as number " + k, x.nights(2), k <= 1500 ? nights : -3);
                Due.is("behind its ROW", x.row(2, nights, 0), k <= 1500 ? -2 : -3);
                for (int far : new int[] {nights + 1, nights + 2, 99, 1499, 1500, Integer.MAX_VALUE}) {
                    Due.is("far behind its ROW", x.row(2, far, 0), k <= 1500 ? -2 : -3);
                }
                Due.is("ahead of it", x.row(2, -1, 0), NONE);
                if (k <= 1500) {
                    goAlong(x, order.get(k));
                }
            }
        }
    }

    /** The ROW is that by which the DRAFT came first; done, it ends there. */
    private static void goAlong(WalkingRooms x, Came came) {
        int[][] walks = new int[came.nights][];
        for (Came at = came; at.from != null; at = at.from) {
            walks[at.nights - 1] = at.walk;
            for (int what = 0; what < 3; what++) {
                Due.is("row(2, " + (at.nights - 1) + ", " + what + ")", x.row(2, at.nights - 1, what), at.walk[what]);
            }
        }
        for (int k = 0; k < walks.length; k++) {
            Due.is("walk", x.walk(walks[k][0], walks[k][1], walks[k][2]), k + 1);
            Due.is("nights", x.nights(2), walks.length - k - 1);
        }
    }

    private static void nights() {
        Due.says("1500 at most, the DRAFT not counted: if the 1501st would come ahead of it, it is UNKNOWN");
        nightsTo(3, 2, 6, 4);
        nightsTo(3, 2, 5, 1);
        nightsTo(3, 2, 6, 2);
        nightsTo(4, 2, 7, 1);
        nightsTo(4, 2, 5, 3);
        nightsTo(4, 4, 3, 1);
        nightsTo(4, 4, 12, 3);
        nightsTo(2, 2, 3, 7);
        nightsTo(1, 4, 2, 7);
        Due.says("-2: it can't be, -3: UNKNOWN");
        WalkingRooms x = with("floor 3 2;room .... 0 0;room .... 1 0;room .... 2 0;room .... 0 1;room .... 1 1;ways 5",
                "bar kind=3 and room>0");
        x.draft(0);
        x.redraw(0, 2, 0, 1);
        Due.is("360 * 4 SITUATIONS, none of them the DRAFT", x.nights(0), -2);
        Due.is("its ROW", x.row(0, 0, 0), -2);
        x.force(NONE);
        Due.is("360 * 4 * 4 * 4 * 4 * 4 SITUATIONS", x.nights(0), -3);
        Due.is("its ROW", x.row(0, 0, 0), -3);
        Due.is("its ROW", x.row(0, 99, 0), -3);
        allSituations();
    }

    /** Three ROOMS in five CELLS, one in five others, one in five others: 60 * 5 * 5 SITUATIONS. */
    private static void allSituations() {
        String palace = "floor 4 4;room .... 0 1;room .... 1 1;room .... 2 1;room .... 0 3;room .... 0 0;ways 3";
        String apart = ";bar room=3 and not[toy=3 or toy=2 and tox=3];bar room=4 and not[toy=0 or toy=1 and tox=3]"
                + ";bar room<3 and [toy=0 or toy=3 or tox=3";
        WalkingRooms x = with(palace, "bar kind=2 and other>2" + apart + " or tox=2 and toy=2]");
        x.draft(0);
        x.redraw(0, 3, 0, 0);
        Due.is("all 1500 came, and no 1501st", x.nights(0), -2);
        Texts.rule(x, "bar kind=2 and other>2" + apart + "]");
        x.force(1);
        Due.is("120 * 5 * 5", x.nights(0), -3);
    }

    private static void marks() {
        Due.says("MARKS: 1 a fixed ROOM lies, or is turned, otherwise");
        WalkingRooms x = with("floor 4 1;room .... 0 0;room .... 1 0;room .... 2 0");
        x.draft(0);
        x.redraw(0, 1, 2, 1);
        x.redraw(0, 3, 1, 0);
        int[] of = {0, 0, 1, 1, 1, 1, 1, 1};
        for (int fixed = 0; fixed < 8; fixed++) {
            for (int room = 0; room < 3; room++) {
                x.fix(room, (fixed >> room & 1) > 0);
            }
            Due.is("fixed " + fixed, x.marks(0), fixed < 2 ? 0 : of[fixed]);
        }
        Due.says("MARKS by the ways: 2, 4, 8");
        for (int ways = 1; ways <= 7; ways++) {
            String three = "floor 4 1;room .... 0 0;room .... 1 0;room .... 2 0;ways " + ways;
            int odd = (ways & 2) > 0 ? 0 : 8;
            int elsewhere = (ways & 3) > 0 ? 0 : 4;
            int turned = (ways & 4) > 0 ? 0 : 2;
            x = with(three);
            x.draft(0);
            Due.is("as it is", x.marks(0), 0);
            x.redraw(0, 3, 0, 0);
            Due.is("turned", x.marks(0), turned);
            x.draft(0);
            x.redraw(0, 2, 0, 2);
            Due.is("places changed once", x.marks(0), elsewhere + odd);
            x.redraw(0, 2, 0, 1);
            Due.is("twice", x.marks(0), elsewhere);
            x.redraw(0, 1, x.drafted(0, 0, 0) == 2 ? 0 : x.drafted(0, 1, 0) == 2 ? 1 : 2, 1);
            Due.is("three times, the EMPTY CELL one away", x.marks(0), elsewhere);
            x.redraw(0, 2, 0, 1);
            Due.is("four times, the EMPTY CELL one away", x.marks(0), elsewhere + odd);
            x.redraw(0, 3, 1, 0);
            Due.is("and turned", x.marks(0), elsewhere + odd + turned);
        }
        Due.says("8: just one CELL is EMPTY");
        x = with("floor 3 1;room .... 0 0;room .... 1 0;room .... 2 0;ways 1");
        x.draft(0);
        x.redraw(0, 2, 0, 1);
        Due.is("none is EMPTY", x.marks(0), 0);
        x = with("floor 4 1;room .... 0 0;room .... 1 0;ways 1");
        x.draft(0);
        x.redraw(0, 2, 0, 1);
        Due.is("two are", x.marks(0), 0);
        x = with("floor 4 1;room .... 0 0;room .... 3 0;room .... 1 0;ways 1");
        x.draft(0);
        x.redraw(0, 2, 0, 1);
        Due.is("one is", x.marks(0), 8);
        Due.is("nights", x.nights(0), -2);
        allPlaces();
    }

    /** Of three ROOMS on two by two CELLS twelve places can be by SLIDES, the others are told by the MARK. */
    private static void allPlaces() {
        List<Came> bySlides = order(new int[] {0, 1, 4}, 2, 2, 1, 99);
        Set<String> can = new HashSet<>();
        for (Came came : bySlides) {
            can.add(Arrays.toString(came.floor));
        }
        List<Came> all = order(new int[] {0, 1, 4}, 2, 2, 3, 99);
        Due.is("places by SLIDES", bySlides.size(), 12);
        Due.is("places by SLIDES and CHANGES", all.size(), 24);
        for (Came came : all) {
            WalkingRooms x = with("floor 2 2;room .... 0 0;room .... 1 0;room .... 0 1;ways 1");
            x.draft(1);
            redraw(x, 1, came);
            String told = Arrays.toString(came.floor);
            int mark = can.contains(told) ? 0 : 8;
            Due.is(told, x.marks(1), mark);
            Due.is(told, x.nights(1) == -2, mark == 8);
            for (int night = 0; night < 5; night++) {
                x.walk(x.choice(1, 0), x.choice(1, 1), x.choice(1, 2));
                Due.is(told + " from elsewhere", x.marks(1), mark);
            }
        }
    }

    // ---- WAYS BY DAY

    private static void waysByDay() {
        Due.says("whose SIDES there are both doors; each that is locked needs its KEY");
        int[][] spots = {{1, 1, 1, 0}, {1, 1, 2, 1}, {1, 1, 1, 2}, {1, 1, 0, 1}};
        for (int side = 0; side < 4; side++) {
            for (int near = 0; near < 7; near++) {
                for (int far = 0; far < 7; far++) {
                    char[] a = "....".toCharArray();
                    char[] b = "....".toCharArray();
                    a[side] = SIGNS.charAt(near);
                    b[(side + 2) % 4] = SIGNS.charAt(far);
                    WalkingRooms x = with("floor 3 3;room " + new String(a) + " 1 1;room " + new String(b) + " "
                            + spots[side][2] + " " + spots[side][3]);
                    boolean doors = (near == 1 || near > 2) && (far == 1 || far > 2);
                    int needs = (near > 2 ? 1 << near - 2 : 0) | (far > 2 ? 1 << far - 2 : 0);
                    Due.is("gossip", x.gossip(0, 1), doors && needs == 0 ? 2 : 1);
                    Due.is("guards", x.guards(0), doors ? 1 : 0);
                    for (int keys = 0; keys < 32; keys += 2) {
                        for (int key = 1; key <= 4; key++) {
                            x.lay(key, (keys >> key & 1) > 0 ? 0 : NONE);
                        }
                        boolean goes = doors && (needs & ~keys) == 0;
                        Due.is("steps(0, 1)", x.steps(0, 1), goes ? 1 : -2);
                        Due.is("reach(0, 0)", x.reach(0, 0), goes ? 3 : 1);
                        Due.is("reach(0, 1)", x.reach(0, 1), keys);
                    }
                }
            }
        }
        Due.says("who comes into a ROOM has the KEYS that lie there (also where he begins)");
        // Four in a row, a door locked by each KEY but the last between them; KEYS lie where they are needed next.
        WalkingRooms x = with("floor 4 2;room .d.. 0 0;room .2.1 1 0;room .3.d 2 0;room ...d 3 0;key 1 0;key 2 1;key 3 2");
        Due.is("steps(0, 3)", x.steps(0, 3), 3);
        Due.is("reach(0, 0)", x.reach(0, 0), 15);
        Due.is("reach(0, 1)", x.reach(0, 1), 14);
        Due.is("reach(1, 0)", x.reach(1, 0), 14);
        Due.is("reach(1, 1)", x.reach(1, 1), 12);
        Due.is("reach(3, 0)", x.reach(3, 0), 8);
        Due.is("steps(3, 0)", x.steps(3, 0), -2);
        Due.is("steps(1, 0)", x.steps(1, 0), -2);
        x.lay(3, 3);
        Due.is("the KEY lies behind its door", x.steps(0, 3), -2);
        Due.is("but from there", x.steps(3, 2), 1);
        Due.is("and no further", x.steps(3, 1), -2);
        for (int room = 0; room < 4; room++) {
            Due.is("itself", x.steps(room, room), 0);
            Due.is("itself", x.reach(room, 0) >> room & 1, 1);
            Due.is("itself", x.gossip(room, 0), 1);
        }
        Due.says("REACH: KEYS one has then");
        // Ten in a ring, a lock between 0 and 1, its KEY in 10, beside 1: the long way round to 0 comes without it, last.
        x = with("floor 4 3;room .dd. 0 0;room .dd1 1 0;room .d.d 2 0;room ..dd 3 0;room d.d. 3 1;room d..d 3 2"
                + ";room .d.d 2 2;room .d.d 1 2;room dd.. 0 2;room d.d. 0 1;room d... 1 1;key 1 10");
        Due.is("reach(1, 0)", x.reach(1, 0), 2047);
        Due.is("reach(1, 1)", x.reach(1, 1), 2);
        Due.is("by way of the KEY", x.steps(1, 0), 3);
        x.lay(1, 5);
        Due.is("round about, or with the KEY from half the way", x.steps(1, 0), 9);
        Due.is("reach(1, 1)", x.reach(1, 1), 2);
        x.lay(1, NONE);
        Due.is("round about", x.steps(1, 0), 9);
        Due.is("reach(1, 1)", x.reach(1, 1), 0);
        Due.is("reach(1, 0)", x.reach(1, 0), 2047);
        gossip();
    }

    private static void gossip() {
        Due.says("GOSSIP: how many ROOMS hear what is said in one within n STEPS");
        WalkingRooms x = with("floor 4 3;room .d.. 0 0;room .d.d 1 0;room .d.d 2 0;room ..dd 3 0;room d.d. 3 1;room d..d 3 2"
                + ";room .d.d 2 2;room .d.d 1 2;room dd.. 0 2;room ..d. 0 1");
        int[] within = {1, 2, 3, 4, 5, 6, 7, 8, 9, 10, 10, 10, 10, 10, 10, 10, 10};
        for (int n = 0; n <= 16; n++) {
            Due.is("gossip(0, " + n + ")", x.gossip(0, n), within[n]);
            Due.is("gossip(4, " + n + ")", x.gossip(4, n), Math.min(10, 2 * n + 1 - Math.max(0, n - 4)));
        }
        Due.is("gossip(0, 17)", x.gossip(0, 17), NONE);
        Due.is("gossip(0, -1)", x.gossip(0, -1), NONE);
        Due.says("(no KEYS: locked doors are no doors)");
        x.lay(1, 0);
        x.brick(2, 1, 3);
        Due.is("gossip(0, 16)", x.gossip(0, 16), 3);
        Due.is("steps(0, 9)", x.steps(0, 9), 9);
    }

    // ---- WISHES and BEDS

    private static void beds() {
        Due.says("WISHES: a PERSON should be at a CELL behind so many NIGHTS of the ALMANAC (0: now)");
        WalkingRooms x = with("floor 4 1;room .... 0 0;room .... 2 0;person 0;person 0");
        x.almanac(1, 0, 1);
        x.almanac(1, 1, 1);
        int[][] cells = {{0, 2}, {1, 2}, {1, 3}};
        for (int nights = 0; nights <= 10; nights++) {
            for (int cell = 0; cell < 4; cell++) {
                x.wish(NONE, 0, 0, 0);
                Due.is("wish", x.wish(0, nights, cell, 0), 1);
                boolean first = nights < 3 && cells[nights][0] == cell;
                boolean second = nights < 3 && cells[nights][1] == cell;
                Due.is(nights + " NIGHTS, CELL " + cell, x.beds(0), first || second ? 1 : 0);
                Due.is("the first", x.beds(1), first ? 0 : second ? 1 : -2);
                Due.is("the first", x.beds(2), first ? 1 : second ? 0 : -2);
                Due.is("almost(0, 0)", x.almost(0, 0), first ? 1 : 0);
                Due.is("almost(1, 0)", x.almost(1, 0), second ? 1 : 0);
            }
        }
        Due.says("A WISH for more NIGHTS than the ALMANAC has is not so");
        x = with("floor 1 1;room .... 0 0;person 0");
        for (int nights = 0; nights <= 10; nights++) {
            x.wish(NONE, 0, 0, 0);
            x.wish(0, nights, 0, 0);
            Due.is("as many", x.beds(0), 1);
            x.wish(0, Math.min(10, nights + 1), 0, 0);
            Due.is("one more", x.beds(0), nights < 10 ? 0 : 1);
            x.almanac(3, 0, 0);
        }
        Due.says("For RULES night is as it would be in ALMANACS (each lies where his ROOM is then)");
        x = with("floor 3 1;room .... 0 0;room .... 2 0;person 0", "bar night=1 or night=4 or faults=9");
        int[] ways = {1, 1, 3, 1};
        int[] places = {0, 1, 1, 0, 1};
        for (int k = 0; k < 4; k++) {
            Due.is("almanac", x.almanac(1, 0, ways[k]), k + 1);
        }
        for (int nights = 0; nights <= 4; nights++) {
            for (int cell = 0; cell < 2; cell++) {
                x.wish(NONE, 0, 0, 0);
                x.wish(0, nights, cell, 0);
                Due.is(nights + " NIGHTS, CELL " + cell, x.beds(0), cell == places[nights] ? 1 : 0);
                Due.is("would", x.would(0, nights, 0), places[nights]);
            }
        }
        x.rest();
        x.wish(NONE, 0, 0, 0);
        x.wish(0, 1, 0, 0);
        Due.is("the first WALK is left out now", x.beds(1), 0);
        Due.says("ROOMS for all PEOPLE, unlike ones");
        for (int rooms = 0; rooms <= 4; rooms++) {
            for (int people = 0; people <= 6 && (rooms > 0 || people == 0); people++) {
                StringBuilder palace = new StringBuilder("floor 4 1");
                int many = 1;
                for (int room = 0; room < rooms; room++) {
                    palace.append(";room .... ").append(room).append(" 0");
                }
                for (int person = 0; person < people; person++) {
                    palace.append(";person 0");
                    many *= rooms - person;
                }
                x = with(palace.toString());
                Due.is(palace + " beds(0)", x.beds(0), many);
                for (int person = 0; person < 6; person++) {
                    boolean has = person < people && many > 0;
                    Due.is(palace + " beds(" + (person + 1) + ")", x.beds(person + 1), has ? person : -2);
                    int some = person >= people ? NONE : many > 0 ? many / rooms : 0;
                    Due.is(palace + " almost(" + person + ", 0)", x.almost(person, 0), rooms > 0 ? some : NONE);
                }
            }
        }
        Due.says("the first (as a row by PEOPLE)");
        x = with("floor 3 1;room .... 0 0;room .... 1 0;room .... 2 0;person 0;person 0;person 0");
        x.wish(2, 0, 0, 0);
        Due.is("0", x.beds(1), 1);
        Due.is("1", x.beds(2), 2);
        Due.is("2", x.beds(3), 0);
        x.wish(1, 0, 1, 0);
        Due.is("0", x.beds(1), 2);
        Due.is("1", x.beds(2), 1);
        x.wish(0, 0, 1, 0);
        Due.is("two in one ROOM", x.beds(0), 0);
        Due.is("there is none", x.beds(1), -2);
    }

    // ---- GUARDS, DRIFT

    private static void guards() {
        Due.says("GUARDS: the fewest ROOMS; of several sets the least as bits");
        // A star: the ROOM in the middle is told last, so the other four are the least as bits, but not the fewest.
        WalkingRooms x = with("floor 3 3;room ..d. 1 0;room ...d 2 1;room d... 1 2;room .d.. 0 1;room dddd 1 1");
        Due.is("guards(0)", x.guards(0), 1);
        Due.is("guards(1)", x.guards(1), 16);
        x.brick(4, 0, 0);
        x.brick(4, 1, 0);
        x.brick(4, 2, 0);
        Due.is("guards(0)", x.guards(0), 1);
        Due.is("of two the least", x.guards(1), 8);
        x.brick(4, 3, 0);
        Due.is("none", x.guards(0), 0);
        Due.is("none", x.guards(1), 0);
        Due.says("of each two neighbours whose SIDES are both doors one at least is among them");
        StringBuilder twelve = new StringBuilder("floor 4 3");
        for (int room = 0; room < 12; room++) {
            twelve.append(";room 1d2d ").append(room % 4).append(' ').append(room / 4);
        }
        x = with(twelve.toString());
        Due.is("all doors", x.guards(0), 6);
        Due.is("all doors", x.guards(1), 1 + 4 + 32 + 128 + 256 + 1024);
        Due.is("no ROOMS", with("floor 4 4").guards(0), 0);
        Due.is("no ROOMS", with("floor 4 4").guards(1), 0);
        Due.is("one", with("floor 4 4;room dddd 1 1").guards(0), 0);
    }

    private static void drift() {
        Due.says("DRIFT: of all ROOMS with a locked door together how many CELLS each is from the nearest edge (0 at it)");
        for (int columns = 1; columns <= 4; columns++) {
            for (int rows = 1; rows <= 4; rows++) {
                for (int x = 0; x < columns; x++) {
                    for (int y = 0; y < rows; y++) {
                        int away = Math.min(Math.min(x, columns - 1 - x), Math.min(y, rows - 1 - y));
                        String at = " " + x + " " + y;
                        String floor = "floor " + columns + " " + rows + ";room ";
                        Due.is(floor + at, with(floor + "..3." + at).drift(0), away);
                        Due.is(floor + at, with(floor + "d.dw" + at).drift(0), 0);
                    }
                }
            }
        }
        String four = "floor 4 4;room 1... 1 1;room .2.. 2 1;room ..3. 1 2;room ...4 2 2;room 1234 0 0";
        Due.is("together", with(four).drift(0), 4);
        Due.says("the ROOM with most doors (of several the least): how many of its doors meet doors");
        WalkingRooms x = with("floor 3 3;room ..d. 1 0;room ...4 2 1;room w... 1 2;room .d.. 0 1;room d1ww 1 1");
        Due.is("drift(1)", x.drift(1), 4);
        Due.is("drift(2)", x.drift(2), 2);
        x.brick(4, 2, 1);
        x.brick(4, 3, 6);
        Due.is("a window is no door", x.drift(2), 3);
        x.brick(4, 0, 0);
        x.brick(4, 1, 0);
        x.brick(4, 2, 0);
        Due.is("of several the least", x.drift(1), 0);
        Due.is("it meets a wall", x.drift(2), 0);
        x.brick(4, 0, 1);
        x.brick(4, 3, 0);
        Due.is("up and down", x.drift(2), 1);
        Due.is("drift(2) of 4", x.brick(0, 2, 0), 1);
        Due.is("of several the least", x.drift(1), 1);
        x = with("floor 2 2");
        Due.is("without ROOMS", x.drift(0), 0);
        Due.is("without ROOMS", x.drift(1), -2);
        Due.is("without ROOMS", x.drift(2), -2);
        x = with("floor 2 2;room wwww 0 0;room .... 1 0");
        Due.is("no doors at all", x.drift(1), 0);
        Due.is("no doors at all", x.drift(2), 0);
    }

    // ---- WOKE

    private static void woke() {
        Due.says("WOKE: ROOMS told to be at CELLS (8 at most): rows of n WALKS (0 to 3)");
        WalkingRooms x = with("floor 4 1;room .... 0 0;ways 1");
        int[][] rows = {{1, 0, 0, 0}, {0, 1, 0, 0}, {1, 0, 1, 0}, {0, 2, 0, 1}};
        for (int n = 0; n <= 3; n++) {
            for (int cell = 0; cell < 4; cell++) {
                x.woke(NONE, 0, 0);
                x.woke(0, cell, 0);
                Due.is(n + " WALKS to " + cell, x.how(n, 0), rows[n][cell]);
                Due.is("SLIDES", x.how(n, 1), n * rows[n][cell]);
                for (int place = 0; place < 3; place++) {
                    boolean is = rows[n][cell] > 0 && place < n;
                    Due.is("place", x.how(n, 4 + place), is ? x.how(n, 4 + place) : -2);
                    Due.is("there is one", x.how(n, 4 + place) >= 0, is);
                }
            }
        }
        Due.says("the first (in the order of WALKS): the place among those that may be then");
        x.woke(NONE, 0, 0);
        x.woke(0, 3, 0);
        // From CELL 0 on there is one WALK, from 1 and 2 to the right comes ahead of to the left.
        for (int what = 4; what <= 6; what++) {
            Due.is("how(3, " + what + ")", x.how(3, what), 0);
        }
        x.woke(NONE, 0, 0);
        x.woke(0, 1, 0);
        Due.is("right, right, left", x.how(3, 4), 0);
        Due.is("right, right, left", x.how(3, 5), 0);
        Due.is("right, right, left", x.how(3, 6), 1);
        x.walk(1, 0, 1);
        Due.is("right and left", x.how(2, 5), 1);
        Due.is("left and right", x.how(2, 0), 2);
        x.woke(0, 2, 0);
        Due.is("at two CELLS", x.how(2, 0), 0);
        Due.is("at two CELLS", x.how(1, 4), -2);
        Due.says("none told: all rows");
        x = with("floor 2 1;room .... 0 0;room .... 1 0");
        int[] all = {1, 3, 9, 27};
        for (int n = 0; n <= 3; n++) {
            Due.is("how(n, 0)", x.how(n, 0), all[n]);
            Due.is("SLIDES", x.how(n, 1), 0);
            Due.is("CHANGES", x.how(n, 2), n * all[n] / 3);
            Due.is("TURNS", x.how(n, 3), 2 * n * all[n] / 3);
            for (int place = 0; place < 3; place++) {
                Due.is("the first", x.how(n, 4 + place), place < n ? 0 : -2);
            }
        }
        Due.is("how(4, 0)", x.how(4, 0), NONE);
        Due.is("how(3, 7)", x.how(3, 7), NONE);
        x.fix(0, true);
        x.fix(1, true);
        Due.is("no WALK may be", x.how(0, 0), 1);
        Due.is("no WALK may be", x.how(1, 0), 0);
        Due.is("no WALK may be", x.how(1, 4), -2);
    }

    // ---- BUILT

    private static void built() {
        Due.says("BUILT: SIDES walls, doors, windows (not locked), by which there are fewest; of several the first");
        int[][] besides = {{1, 0}, {2, 1}, {1, 2}, {0, 1}};
        for (int code = 0; code < 512; code++) {
            StringBuilder palace = new StringBuilder("floor 3 3");
            int[] meets = new int[4];
            int doors = 0;
            for (int side = 0; side < 4; side++) {
                int sort = (new int[] {code & 7, code >> 3 & 7, code >> 6, (code * 5 + code / 7) & 7})[side];
                char[] sides = "....".toCharArray();
                if (sort < 7) {
                    sides[(side + 2) % 4] = SIGNS.charAt(sort);
                    palace.append(";room ").append(sides).append(' ').append(besides[side][0]).append(' ')
                            .append(besides[side][1]);
                    meets[side] = sort > 2 ? 1 : sort;
                    doors += meets[side] == 1 ? 1 : 0;
                }
            }
            WalkingRooms x = with(palace.toString());
            Due.is(palace + " ahead", x.mismatch(0), doors);
            Due.is(palace + " built", x.built(1, 1, 0), 0);
            for (int side = 0; side < 4; side++) {
                Due.is(palace + " SIDE", x.built(1, 1, 1 + side), meets[side]);
                // In a corner nothing is met but what lies beside it, which shows walls there.
                Due.is(palace + " SIDE", x.built(0, 0, 1 + side), 0);
            }
            Due.is(palace + " in a corner", x.built(2, 2, 0), doors);
            Due.is(palace + " best()", x.best(), doors > 0 ? 5 : x.best());
        }
        Due.says("the EMPTY CELL by which it is fewest, of several the first; -2: there is none");
        WalkingRooms x = with("floor 4 4;room .d.. 0 3;room ...d 3 2;room dddd 1 1");
        // Towards (1, 0), (2, 1), (1, 2), (0, 1), (1, 3) and (2, 2) there is a door each.
        Due.is("best()", x.best(), 1);
        x.brick(2, 0, 0);
        Due.is("best()", x.best(), 4);
        x.brick(2, 3, 2);
        Due.is("best()", x.best(), 6);
        x.brick(1, 3, 0);
        x.brick(1, 0, 6);
        Due.is("best()", x.best(), 6);
        x.brick(2, 2, 0);
        x.brick(2, 1, 0);
        Due.is("best()", x.best(), 7);
        x.brick(1, 0, 0);
        Due.is("best()", x.best(), 13);
        x.brick(0, 1, 0);
        Due.is("of several the first", x.best(), 0);
        Due.is("the only one", with("floor 2 1;room .... 0 0").best(), 1);
        Due.is("there is none", with("floor 1 1;room .... 0 0").best(), -2);
        Due.is("built", with("floor 1 1;room .... 0 0").built(0, 0, 0), NONE);
        Due.is("no ROOMS", with("floor 1 1").best(), 0);
        Due.is("no ROOMS", with("floor 1 1").built(0, 0, 0), 0);
        Due.is("no ROOMS", with("floor 1 1").built(0, 0, 4), 0);
    }

    // ---- DRAWS

    private static BigInteger next(BigInteger x) {
        return x.multiply(BigInteger.valueOf(1103515245)).add(BigInteger.valueOf(12345)).mod(BigInteger.ONE.shiftLeft(31));
    }

    /** What is drawn, done by hand. */
    private static void drawnByHand(WalkingRooms x, int m, int n) {
        x.image(3);
        int[] sums = new int[3];
        BigInteger draw = BigInteger.valueOf(x.count(13));
        for (int time = 0; time < m; time++) {
            for (int night = 0; night < n; night++) {
                int many = x.can();
                int place = 0;
                if (many > 0) {
                    draw = next(draw);
                    place = draw.divide(BigInteger.valueOf(65536)).intValue() % many;
                    sums[2]++;
                }
                if (many == 0 || x.walk(x.choice(place, 0), x.choice(place, 1), x.choice(place, 2)) < 0) {
                    x.rest();
                }
            }
            sums[0] += x.mismatch(0);
            boolean meet = false;
            for (int side = 0; side < 4; side++) {
                int sort = x.room(0, 2 + side);
                int cx = x.room(0, 0) % 4 + new int[] {0, 1, 0, -1}[side];
                int cy = x.room(0, 0) / 4 + new int[] {-1, 0, 1, 0}[side];
                int far = x.room(1, 2 + (side + 2) % 4);
                meet |= x.at(cx, cy) == 1 && (sort == 1 || sort > 2) && (far == 1 || far > 2);
            }
            sums[1] += meet ? 1 : 0;
            x.back(3);
        }
        for (int what = 0; what < 3; what++) {
            Due.is("drawn(" + m + ", " + n + ", 0, 1, " + what + ")", x.drawn(m, n, 0, 1, what), sums[what]);
            Due.is("either order", x.drawn(m, n, 1, 0, what), sums[what]);
        }
    }

    private static void draws() {
        Due.says("DRAWN m times from now on, n NIGHTS: each the WALK at the place DRAW mod how many may be");
        String[] palaces = {"floor 3 3;room .d1. 0 0;room d..w 1 1;room ..dd 2 0;room 2.w. 0 2",
            "floor 2 2;room dd.. 0 1;room .d.d 1 0;room .... 0 0", "floor 2 1;room .d.. 0 0;room ...d 1 0;ways 2",
            "floor 3 1;room .d.. 0 0;room ...d 2 0;ways 1;fixed 1", "floor 2 1;room .d.. 0 0;room d... 1 0;ways 4;fixed 0"};
        String[] rules = {"bar 1=2", "bar night%3=1", "bar faults>3 and kind<3 or after>6", "bar faults%2=0 and night<4",
            "bar kind=1 and tox=1 or kind=3 and [night=0 or night=2]",
            "bar room=faults%4", "bar kind=faults%3+1 or room=night%5", "bar room=after%3"};
        for (String palace : palaces) {
            for (String rule : rules) {
                WalkingRooms x = with(palace, rule);
                for (int law = 0; law < 3; law++) {
                    x.law(law);
                    x.seed(law == 0 ? 2147483647 : law * 1234567 + palace.length());
                    drawnByHand(x, 1, 1);
                    drawnByHand(x, 2, 3);
                    x.rest();
                }
                x = with(palace, rule);
                x.seed(rule.length());
                drawnByHand(x, 3, 7);
                x = with(palace, rule);
                drawnByHand(x, 1, 20);
            }
        }
        Due.says("x (0 to 2147483647; 0 at first)");
        WalkingRooms x = with("floor 2 2;room d... 0 0;room .... 1 1");
        Due.is("at first", x.count(13), 0);
        for (int seed : new int[] {0, 1, 2, 65535, 65536, 2147483646, 2147483647}) {
            x.seed(seed);
            Due.is("count(13)", x.count(13), seed);
            drawnByHand(x, 1, 4);
            Due.is("behind it x is as it was", x.count(13), seed);
        }
        Due.says("none: a NIGHT without, and without a DRAW");
        x = with("floor 2 1;room .d.. 0 0;room ...d 1 0", "bar not night=3");
        for (int n = 1; n <= 6; n++) {
            Due.is("WALKS", x.drawn(1, n, 0, 1, 2), n > 3 ? 1 : 0);
            Due.is("WALKS of ten times", x.drawn(10, n, 0, 1, 2), n > 3 ? 10 : 0);
            drawnByHand(x, 2, n);
        }
        Due.says("m times (1 to 10), n NIGHTS (1 to 60)");
        x = with("floor 2 1;room .d.. 0 0;room ...d 1 0");
        for (int m = 1; m <= 10; m++) {
            Due.is("WALKS", x.drawn(m, 60, 0, 1, 2), 60 * m);
            Due.is("WALKS", x.drawn(m, 1, 0, 1, 2), m);
        }
        Due.is("a time too many", x.drawn(11, 1, 0, 1, 2), NONE);
        Due.is("a NIGHT too many", x.drawn(1, 61, 0, 1, 2), NONE);
        x.fix(0, true);
        x.fix(1, true);
        Due.is("door to door, each time", x.drawn(10, 60, 0, 1, 1), 10);
    }

    public static void main(String[] args) {
        floors();
        nights();
        marks();
        waysByDay();
        beds();
        guards();
        drift();
        woke();
        built();
        draws();
        Due.end();
    }
}

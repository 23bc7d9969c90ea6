import java.util.ArrayList;
import java.util.List;

/** The sentences of the document's second part (MISMATCHES, WALKS, LAWS, NIGHTS, DRAFTS) that name a boundary case. */
public final class EdgesOfNightsTest {
    private static final int NONE = WalkingRooms.NONE;
    private static final String SIGNS = ".dw1234";

    private static WalkingRooms with(String palace) {
        WalkingRooms x = new WalkingRooms();
        Due.is("palace " + palace, Texts.palace(x, palace) >= 0, true);
        return x;
    }

    private static WalkingRooms with(String palace, String rule) {
        WalkingRooms x = with(palace);
        Due.is("rule " + rule, Texts.rule(x, rule), 0);
        x.force(0);
        return x;
    }

    /** 0 a wall, 1 a door (locked or not), 2 a window. */
    private static int kind(int sort) {
        return sort > 2 ? 1 : sort;
    }

    private static String sides(int side, int sort) {
        char[] all = "....".toCharArray();
        all[side] = SIGNS.charAt(sort);
        return new String(all);
    }

    private static void first(String what, WalkingRooms x, int many, int cx, int cy, int side) {
        Due.is(what + ": MISMATCHES", x.mismatch(0), many);
        Due.is(what + ": x", x.mismatch(1), cx);
        Due.is(what + ": y", x.mismatch(2), cy);
        Due.is(what + ": SIDE", x.mismatch(3), side);
    }

    private static void mismatches() {
        Due.says("two SIDES that face one another and are not both walls, both windows, or both doors, are one");
        for (int a = 0; a < 7; a++) {
            for (int b = 0; b < 7; b++) {
                boolean is = kind(a) != kind(b);
                WalkingRooms x = with("floor 2 1;room " + sides(1, a) + " 0 0;room " + sides(3, b) + " 1 0");
                first(a + " to the right meets " + b, x, is ? 1 : 0, is ? 0 : -2, is ? 0 : -2, is ? 1 : -2);
                x = with("floor 1 2;room " + sides(0, b) + " 0 1;room " + sides(2, a) + " 0 0");
                first(a + " down meets " + b, x, is ? 1 : 0, is ? 0 : -2, is ? 0 : -2, is ? 2 : -2);
            }
        }
        Due.says("a door that faces no ROOM (the edge, or an EMPTY CELL) is one");
        for (int sort = 0; sort < 7; sort++) {
            for (int side = 0; side < 4; side++) {
                boolean is = kind(sort) == 1;
                WalkingRooms x = with("floor 1 1;room " + sides(side, sort) + " 0 0");
                first("the edge", x, is ? 1 : 0, is ? 0 : -2, is ? 0 : -2, is ? side : -2);
                x = with("floor 3 3;room " + sides(side, sort) + " 1 1");
                first("an EMPTY CELL", x, is ? 1 : 0, is ? 1 : -2, is ? 1 : -2, is ? side : -2);
            }
        }
        Due.says("by CELLS, rows from above, from the left, of a CELL by SIDES; two SIDES: at the first of both");
        // The ROOMS are told from below: the order is that of CELLS.
        WalkingRooms x = with("floor 2 2;room dddd 1 1;room dddd 0 1;room dddd 1 0;room dddd 0 0");
        int[][] order = {{0, 0, 0, 8}, {0, 0, 3, 7}, {1, 0, 0, 6}, {1, 0, 1, 5}, {0, 1, 2, 4}, {0, 1, 3, 3}, {1, 1, 1, 2},
            {1, 1, 2, 1}};
        for (int[] m : order) {
            first("one by one", x, m[3], m[0], m[1], m[2]);
            x.brick(x.at(m[0], m[1]), m[2], 0);
        }
        first("none", x, 0, -2, -2, -2);
        x.brick(0, 0, 2);
        first("of both the one above", x, 1, 1, 0, 2);
        x.brick(0, 3, 2);
        first("of the other both the left one", x, 2, 1, 0, 2);
        x.brick(0, 0, 1);
        first("the left one", x, 1, 0, 1, 1);
    }

    // ---- WALKS and LAWS

    private static void walksThatMayBe() {
        Due.says("SLIDES by ROOMS, each by SIDES; CHANGES by the lesser ROOM, then the other one; TURNS by ROOMS");
        WalkingRooms x = with("floor 3 3;room .... 1 1;room .... 2 1;room .... 0 0;room .... 1 0");
        int[][] all = {{1, 0, 2}, {1, 0, 3}, {1, 1, 0}, {1, 1, 2}, {1, 2, 2}, {1, 3, 1}, {2, 0, 1}, {2, 0, 3}, {2, 2, 3},
            {3, 0, 0}, {3, 1, 0}, {3, 2, 0}, {3, 3, 0}};
        Due.is("can()", x.can(), all.length);
        for (int k = 0; k < all.length; k++) {
            for (int what = 0; what < 3; what++) {
                Due.is("choice(" + k + ", " + what + ")", x.choice(k, what), all[k][what]);
            }
            Due.is("choice(" + k + ", 3)", x.choice(k, 3), 0);
        }
        Due.is("choice(13, 0)", x.choice(all.length, 0), NONE);
        Due.says("a SLIDE over a SIDE (0 up, 1 right, 2 down, 3 left) to the EMPTY CELL there");
        int[] goals = {1, 6, 9, 4};
        for (int side = 0; side < 4; side++) {
            x = with("floor 3 3;room .... 1 1");
            Due.is("walk", x.walk(1, 0, side), 1);
            Due.is("CELL", x.room(0, 0), goals[side]);
            Due.is("back", x.walk(1, 0, (side + 2) % 4), 2);
            Due.is("CELL", x.room(0, 0), 5);
        }
        Due.says("2 it can be (an EMPTY CELL, neighbours)");
        for (int side = 0; side < 4; side++) {
            Due.is("over the edge", with("floor 1 1;room .... 0 0").walk(1, 0, side), -4);
            x = with("floor 3 3;room .... 1 1;room .... 1 0;room .... 2 1;room .... 1 2;room .... 0 1");
            Due.is("not EMPTY", x.walk(1, 0, side), -4);
            Due.is("neighbours", x.walk(2, 0, 1 + side), 1);
            Due.is("CELL", x.room(0, 0), goals[side]);
            Due.is("CELL", x.room(1 + side, 0), 5);
        }
        x = with("floor 4 2;room .... 3 0;room .... 0 1;room .... 2 0;room .... 1 1");
        Due.is("the end of a row and the next one", x.walk(2, 0, 1), -4);
        Due.is("two away", x.walk(2, 1, 2), -4);
        Due.is("across a corner", x.walk(2, 2, 3), -4);
        Due.is("side by side", x.walk(2, 2, 0), 1);
        Due.says("a TURN of a ROOM (what was up is right then, and so on)");
        x = with("floor 1 1;room .d24 0 0");
        int[] told = {0, 1, 4, 6};
        for (int turns = 0; turns <= 4; turns++) {
            Due.is("turns", x.room(0, 1), turns % 4);
            for (int side = 0; side < 4; side++) {
                Due.is("SIDE", x.room(0, 2 + (side + turns) % 4), told[side]);
            }
            x.walk(3, 0, 0);
        }
    }

    private static void laws() {
        Due.says("1 its kind is among the ways");
        for (int ways = 1; ways <= 7; ways++) {
            WalkingRooms x = with("floor 3 1;room .... 0 0;room .... 1 0;ways " + ways);
            int night = 0;
            night += (ways & 4) > 0 ? 1 : 0;
            Due.is(ways + ": a TURN", x.walk(3, 0, 0), (ways & 4) > 0 ? night : -3);
            night += (ways & 2) > 0 ? 1 : 0;
            Due.is(ways + ": a CHANGE", x.walk(2, 0, 1), (ways & 2) > 0 ? night : -3);
            night += (ways & 1) > 0 ? 1 : 0;
            Due.is(ways + ": a SLIDE", x.walk(1, x.at(1, 0), 1), (ways & 1) > 0 ? night : -3);
        }
        Due.says("1 none of its ROOMS is fixed");
        for (int fixed = 0; fixed < 2; fixed++) {
            WalkingRooms x = with("floor 3 1;room .... 0 0;room .... 1 0;fixed " + fixed);
            Due.is("both orders", x.walk(2, 0, 1), -3);
            Due.is("both orders", x.walk(2, 1, 0), -3);
            Due.is("a TURN", x.walk(3, fixed, 0), -3);
            Due.is("a SLIDE", x.walk(1, fixed, 1), -3);
            Due.is("the other one's TURN", x.walk(3, 1 - fixed, 0), 1);
            Due.is("can()", x.can(), fixed == 0 ? 2 : 1);
        }
        Due.says("LAWS, the first that is broken");
        WalkingRooms x = with("floor 2 1;room d... 0 0;room .... 1 0;fixed 1;ways 1", "bar 1=1");
        x.law(2);
        Due.is("1 ahead of 2", x.walk(1, 1, 1), -3);
        Due.is("1 ahead of 2", x.walk(2, 0, 1), -3);
        Due.is("1 ahead of 3", x.walk(3, 0, 0), -3);
        Due.is("2 ahead of 3", x.walk(1, 0, 3), -4);
        x = with("floor 3 1;room d... 0 0;room .... 1 0", "bar 1=1");
        x.law(2);
        Due.is("3 ahead of 4", x.walk(3, 0, 0), -5);
        Due.is("3 ahead of 4", x.walk(2, 0, 1), -5);
        x.law(1);
        Due.is("4 alone", x.walk(3, 0, 0), -6);
        x.law(0);
        Due.is("4 alone", x.walk(1, 1, 1), -6);
        Due.is("2 ahead of 4", x.walk(1, 0, 1), -4);
        Due.is("nothing happened", x.count(8), 0);
        meeting();
    }

    private static void meeting() {
        // Turned by one the door of 1 faces the edge above, by two the wall, by three the edge below, by four the door.
        String palace = "floor 2 1;room .d.. 0 0;room ...d 1 0;fixed 0";
        Due.says("the LAW of meeting: 0 nothing");
        WalkingRooms x = with(palace);
        int[] faults = {2, 2, 2, 0};
        for (int k = 0; k < 4; k++) {
            Due.is("walk", x.walk(3, 1, 0), k + 1);
            Due.is("MISMATCHES", x.mismatch(0), faults[k]);
        }
        Due.says("1 no more MISMATCHES behind it than ahead of it");
        x.law(1);
        Due.is("more", x.walk(3, 1, 0), -5);
        x.law(0);
        x.walk(3, 1, 0);
        x.law(1);
        Due.is("as many", x.walk(3, 1, 0), 6);
        Due.is("as many", x.walk(3, 1, 0), 7);
        Due.is("less", x.walk(3, 1, 0), 8);
        Due.is("more", x.walk(3, 1, 0), -5);
        Due.says("2 none behind it");
        x.law(2);
        Due.is("some", x.walk(3, 1, 0), -5);
        x.law(0);
        x.walk(3, 1, 0);
        x.law(2);
        Due.is("as many", x.walk(3, 1, 0), -5);
        x.law(0);
        x.walk(3, 1, 0);
        x.walk(3, 1, 0);
        x.law(2);
        Due.is("none", x.walk(3, 1, 0), 12);
        Due.is("some again", x.can(), 0);
        x = with("floor 2 1;room .... 0 0");
        x.law(2);
        Due.is("none ahead of it, none behind it", x.walk(1, 0, 1), 1);
        Due.says("less MISMATCHES are not none");
        x = with("floor 3 1;room .d.. 0 0;room d... 2 0");
        x.law(2);
        Due.is("one is left", x.walk(1, 1, 3), -5);
        x.law(1);
        Due.is("as many", x.walk(1, 1, 3), 1);
    }

    // ---- WORDS of a WALK

    private static void word(String palace, int[] walk, String test) {
        WalkingRooms x = with(palace, "bar " + test);
        Due.is(test, x.walk(walk[0], walk[1], walk[2]), -6);
        x = with(palace, "bar not[" + test + "]");
        Due.is("not[" + test + "]", x.walk(walk[0], walk[1], walk[2]), 1);
    }

    private static int[] walk(int kind, int room, int other) {
        return new int[] {kind, room, other};
    }

    private static void words() {
        Due.says("kind (1 a SLIDE, 2 a CHANGE, 3 a TURN), room, other (the other one of a CHANGE; 99 else)");
        String four = "floor 4 4;room .... 0 0;room .... 1 0;room .... 3 3;room .... 3 2";
        word(four, walk(1, 2, 3), "kind=1 and room=2 and other=99");
        word(four, walk(2, 3, 2), "kind=2 and room=2 and other=3");
        word(four, walk(2, 2, 3), "kind=2 and room=2 and other=3");
        word(four, walk(3, 0, 0), "kind=3 and room=0 and other=99");
        Due.says("x, y (of the ROOM), tox, toy (where it goes; of a TURN the same)");
        word(four, walk(1, 0, 2), "x=0 and y=0 and tox=0 and toy=1");
        word(four, walk(1, 2, 3), "x=3 and y=3 and tox=2 and toy=3");
        word(four, walk(1, 3, 0), "x=3 and y=2 and tox=3 and toy=1");
        word(four, walk(1, 1, 1), "x=1 and y=0 and tox=2 and toy=0");
        word(four, walk(2, 1, 0), "x=0 and y=0 and tox=1 and toy=0");
        word(four, walk(2, 2, 3), "x=3 and y=3 and tox=3 and toy=2");
        word(four, walk(3, 2, 0), "x=3 and y=3 and tox=3 and toy=3");
        Due.says("doors (of the ROOM, locked ones too), locks (of these, locked)");
        String[] sides = {"....", "wwww", "d...", ".1..", "..2.", "...3", "4...", "dddd", "1234", "d4w.", "wd1d"};
        int[] doors = {0, 0, 1, 1, 1, 1, 1, 4, 4, 2, 3};
        int[] locks = {0, 0, 0, 1, 1, 1, 1, 0, 4, 1, 1};
        for (int k = 0; k < sides.length; k++) {
            word("floor 1 1;room " + sides[k] + " 0 0", walk(3, 0, 0), "doors=" + doors[k] + " and locks=" + locks[k]);
        }
        Due.says("people (who sleep in it)");
        for (int many = 0; many <= 6; many++) {
            String all = ";person 0".repeat(many) + ";person 1".repeat(6 - many);
            word("floor 2 1;room .... 0 0;room .... 1 0" + all, walk(3, 0, 0), "people=" + many);
            word("floor 2 1;room .... 0 0;room .... 1 0" + all, walk(3, 1, 0), "people=" + (6 - many));
        }
        Due.says("night (NIGHTS there were)");
        WalkingRooms x = with("floor 1 1;room .... 0 0");
        for (int night = 0; night < 4; night++) {
            Texts.rule(x, "bar night=" + night);
            x.force(night);
            Due.is("night", x.walk(3, 0, 0), -6);
            x.force(NONE);
            Due.is("night", x.walk(3, 0, 0), night + 1);
        }
        for (int night = 3; night >= 0; night--) {
            Due.is("undo()", x.undo(), night);
            x.force(night);
            Due.is("night", x.walk(3, 0, 0), -6);
        }
        Due.says("faults (MISMATCHES now), after (those behind it)");
        String meets = "floor 2 1;room .d.. 0 0;room ...d 1 0";
        word(meets, walk(3, 0, 0), "faults=0 and after=2");
        word(meets, walk(2, 0, 1), "faults=0 and after=2");
        word("floor 3 1;room .d.. 0 0;room ...d 2 0", walk(1, 1, 3), "faults=2 and after=0");
        word("floor 3 1;room .d.. 0 0;room ...d 2 0", walk(3, 1, 0), "faults=2 and after=2");
        word("floor 2 2;room dddd 0 0;room dddd 1 0;room dddd 0 1;room dddd 1 1", walk(2, 0, 1), "faults=8 and after=8");
        word("floor 4 4;room dddd 1 1", walk(1, 0, 0), "faults=4 and after=4");
    }

    // ---- NIGHTS

    private static void undone() {
        Due.says("A NIGHT is a WALK BY HAND, or none. The last 20 NIGHTS can be UNDONE, the last first");
        for (int nights : new int[] {0, 1, 19, 20, 21, 45}) {
            WalkingRooms x = with("floor 4 1;room .... 0 0");
            List<Integer> cells = new ArrayList<>();
            List<Integer> turns = new ArrayList<>();
            for (int k = 0; k < nights; k++) {
                cells.add(x.room(0, 0));
                turns.add(x.room(0, 1));
                int way = k % 3 == 2 ? 0 : k % 7 < 3 && x.room(0, 0) < 3 ? 1 : 3;
                if (way == 0) {
                    x.rest();
                } else if (way == 1 || x.walk(1, 0, 3) < 0) {
                    Due.is("walk", way == 1 ? x.walk(1, 0, 1) : x.walk(3, 0, 0), k + 1);
                }
                Due.is("count(9)", x.count(9), Math.min(k + 1, 20));
            }
            for (int k = nights - 1; k >= Math.max(0, nights - 20); k--) {
                Due.is("undo()", x.undo(), Math.min(nights, 20) - (nights - k));
                Due.is("CELL", x.room(0, 0), cells.get(k));
                Due.is("turns", x.room(0, 1), turns.get(k));
                Due.is("it is a NIGHT less", x.count(8), k);
            }
            Due.is("undo()", x.undo(), -2);
            Due.is("count(8)", x.count(8), Math.max(0, nights - 20));
            Due.is("count(9)", x.count(9), 0);
        }
        Due.says("The ALMANAC's NIGHTS come: these can be UNDONE, too");
        WalkingRooms x = with("floor 1 1;room .... 0 0");
        for (int time = 1; time <= 3; time++) {
            for (int k = 0; k < 10; k++) {
                x.almanac(k % 2 == 0 ? 3 : 1, 0, 0);
            }
            Due.is("follow()", x.follow(), 5);
            Due.is("count(8)", x.count(8), 10 * time);
            Due.is("count(9)", x.count(9), Math.min(20, 10 * time));
        }
        for (int k = 19; k >= 0; k--) {
            Due.is("undo()", x.undo(), k);
            Due.is("turns", x.room(0, 1), (5 + (k + 1) / 2) % 4);
        }
        Due.is("undo()", x.undo(), -2);
        byDay();
    }

    private static void byDay() {
        Due.says("BY HAND by day (What was by night can't be UNDONE any more then)");
        for (int way = 0; way < 4; way++) {
            WalkingRooms x = with("floor 2 2;room .d.. 0 0;room .... 1 0;key 1 0;person 0");
            x.draft(1);
            x.almanac(3, 0, 0);
            for (int k = 0; k < 3; k++) {
                x.walk(3, 0, 0);
            }
            // What is so already, or can't be, is nothing by day.
            x.brick(0, 0, 1);
            x.lay(1, 0);
            x.bed(0, 0);
            x.fix(0, false);
            x.brick(2, 0, 1);
            x.lay(5, 0);
            x.bed(1, 0);
            x.fix(2, true);
            Due.is("count(9)", x.count(9), 3);
            boolean is = way == 0 ? x.brick(0, 0, 0) == 1 : way == 1 ? x.lay(1, NONE) == 0
                    : way == 2 ? x.bed(0, 1) == 0 : x.fix(0, true);
            Due.is("by day " + way, is, true);
            Due.is("count(9)", x.count(9), 0);
            Due.is("undo()", x.undo(), -2);
            Due.is("NIGHTS there were", x.count(8), 3);
            Due.is("turns", x.room(0, 1), 3);
            Due.is("DRAFTS stay", x.drafted(1, 0, 1), 0);
            Due.is("the ALMANAC stays", x.count(10), 1);
            Due.is("rest()", x.rest(), 4);
            Due.is("from now on again", x.undo(), 0);
        }
        Due.says("none of these can UNDO, and none is a NIGHT");
        WalkingRooms x = with("floor 2 1;room .d.. 0 0");
        x.rest();
        x.law(1);
        x.law(0);
        Texts.rule(x, "bar x=9");
        x.force(0);
        x.draft(0);
        x.redraw(0, 3, 0, 0);
        x.almanac(3, 0, 0);
        x.woke(0, 0, 0);
        x.seed(5);
        x.image(0);
        Due.is("count(8)", x.count(8), 1);
        Due.is("count(9)", x.count(9), 1);
    }

    // ---- DRAFTS and the ALMANAC

    private static void drafts() {
        Due.says("DRAFTS 0 to 3: the floor as it is when it is drafted");
        WalkingRooms x = with("floor 4 1;room .d.. 0 0;room .... 3 0;ways 5");
        for (int draft = 0; draft < 4; draft++) {
            Due.is("draft", x.draft(draft), 1);
            Due.is("count(16)", x.count(16), (2 << draft) - 1);
            x.walk(3, 0, 0);
        }
        for (int draft = 0; draft < 4; draft++) {
            Due.is("turns of then", x.drafted(draft, 0, 1), draft);
            Due.is("the other ROOM", x.drafted(draft, 1, 0), 3);
        }
        x.walk(1, 0, 1);
        Due.is("again", x.draft(2), 1);
        Due.is("turns", x.drafted(2, 0, 1), 0);
        Due.is("CELL", x.drafted(2, 0, 0), 1);
        Due.is("the others stay", x.drafted(3, 0, 0), 0);
        x.brick(0, 1, 0);
        Due.is("a DRAFT is where ROOMS are, not their SIDES", x.nights(2), 0);
        Due.is("MISMATCHES", x.draft(0), 0);
        Due.says("REDRAWN: over a SIDE to the CELL there that is EMPTY in it, two change places, or one is TURNED");
        x = with("floor 2 2;room .d.. 0 0;room ...d 1 0;ways 4;fixed 0;fixed 1", "bar 1=1");
        x.law(2);
        x.draft(3);
        Due.is("ways, LAWS, who is fixed are not asked", x.redraw(3, 1, 0, 2), true);
        Due.is("CELL", x.drafted(3, 0, 0), 4);
        Due.is("not EMPTY now, but in it", x.redraw(3, 1, 1, 3), true);
        Due.is("CELL", x.drafted(3, 1, 0), 0);
        Due.is("not EMPTY in it", x.redraw(3, 1, 1, 2), false);
        Due.is("the edge", x.redraw(3, 1, 1, 0), false);
        Due.is("the edge", x.redraw(3, 1, 1, 3), false);
        Due.is("neighbours", x.redraw(3, 2, 1, 0), true);
        Due.is("CELL", x.drafted(3, 1, 0), 4);
        Due.is("over a SIDE", x.redraw(3, 1, 1, 1), true);
        Due.is("not neighbours", x.redraw(3, 2, 0, 1), true);
        Due.is("CELL", x.drafted(3, 0, 0), 5);
        for (int turns = 1; turns <= 5; turns++) {
            Due.is("TURNED", x.redraw(3, 3, 1, 0), true);
            Due.is("turns", x.drafted(3, 1, 1), turns % 4);
        }
        Due.is("the floor stays", x.room(0, 0) + x.room(1, 0), 1);
        Due.is("no NIGHT", x.count(8), 0);
        Due.says("A ROOM's turns: 0 as it was told, 1 to 3 so many TURNS behind that");
        x = with("floor 1 1;room d... 0 0");
        x.walk(3, 0, 0);
        x.brick(0, 1, 0);
        Due.is("by day turns stay", x.room(0, 1), 1);
        x.draft(0);
        Due.is("turns", x.drafted(0, 0, 1), 1);
    }

    private static void almanac() {
        Due.says("The ALMANAC: 10 WALKS at most, one for each NIGHT to come");
        WalkingRooms x = with("floor 3 1;room .... 0 0;room .... 1 0");
        for (int k = 1; k <= 10; k++) {
            Due.is("almanac", x.almanac(1 + k % 3, 0, k % 3 == 1 ? 1 : 0), k);
        }
        Due.is("an eleventh", x.almanac(3, 0, 0), -2);
        Due.is("count(10)", x.count(10), 10);
        Due.is("would(0, 10, 2)", x.would(0, 10, 2) >= 0, true);
        Due.is("would(0, 11, 2)", x.would(0, 11, 2), NONE);
        Due.is("it is empty then", x.almanac(NONE, 7, 7), 0);
        Due.is("would(0, 0, 2)", x.would(0, 0, 2), 0);
        Due.is("would(0, 1, 2)", x.would(0, 1, 2), NONE);
        Due.says("what may not be when its NIGHT comes is left out (it is a NIGHT all the same)");
        x = with("floor 3 1;room .... 0 0;room .... 1 0", "bar night=2");
        x.almanac(1, 0, 1);
        x.almanac(1, 1, 1);
        x.almanac(1, 0, 1);
        x.almanac(1, 0, 1);
        int[] cells = {0, 0, 0, 0, 1};
        int[] left = {0, 1, 1, 2, 2};
        for (int nights = 0; nights <= 4; nights++) {
            Due.is("CELL", x.would(0, nights, 0), cells[nights]);
            Due.is("left out", x.would(0, nights, 2), left[nights]);
        }
        Due.is("follow()", x.follow(), 2);
        Due.is("NIGHTS", x.count(8), 4);
        Due.is("CELL", x.room(0, 0), 1);
        Due.is("it is empty then", x.count(10), 0);
        Due.is("follow()", x.follow(), 0);
        Due.is("NIGHTS", x.count(8), 4);
        Due.says("two ROOMS, in any order");
        x = with("floor 2 1;room .... 0 0;room .... 1 0", "bar not[room=0 and other=1]");
        x.almanac(2, 1, 0);
        x.almanac(2, 0, 1);
        Due.is("left out", x.would(0, 2, 2), 0);
        Due.is("walk", x.walk(2, 1, 0), 1);
        Due.is("walk", x.walk(2, 0, 1), 2);
    }

    public static void main(String[] args) {
        mismatches();
        walksThatMayBe();
        laws();
        words();
        undone();
        drafts();
        almanac();
        Due.end();
    }
}

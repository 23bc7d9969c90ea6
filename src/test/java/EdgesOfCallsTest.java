import java.lang.reflect.InvocationTargetException;
import java.lang.reflect.Method;
import java.util.ArrayList;
import java.util.List;

/**
 * The sentences of the promises that name a boundary case: what is answered without these, that nothing happens
 * then, what stays behind a FAULT, behind a new PALACE and behind an IMAGE gone back to.
 */
public final class EdgesOfCallsTest {
    private static final int NONE = WalkingRooms.NONE;
    private static final int[] FAR = {Integer.MIN_VALUE, Integer.MIN_VALUE + 1, -65536, -256, -17, -16, -4, -3, -2, -1, 0, 1,
        2, 3, 4, 5, 6, 7, 8, 9, 10, 11, 12, 13, 15, 16, 17, 31, 32, 33, 34, 60, 61, 63, 64, 65, 99, 100, 128, 255, 256, 257,
        399, 400, 401, 4096, 65535, 65536, 65537, 1 << 24, 1 << 28, 1 << 30, Integer.MAX_VALUE - 1, Integer.MAX_VALUE};

    private static WalkingRooms with(String palace) {
        WalkingRooms x = new WalkingRooms();
        Due.is("palace " + palace, Texts.palace(x, palace) >= 0, true);
        return x;
    }

    private static int answer(WalkingRooms x, String name, int... args) {
        for (Method m : WalkingRooms.class.getMethods()) {
            if (m.getName().equals(name) && m.getDeclaringClass() == WalkingRooms.class) {
                Object[] values = new Object[args.length];
                for (int i = 0; i < args.length; i++) {
                    values[i] = m.getParameterTypes()[i] == boolean.class ? (Object) (args[i] != 0) : (Object) args[i];
                }
                try {
                    Object got = m.invoke(x, values);
                    return got instanceof Boolean is ? is ? 1 : 0 : (Integer) got;
                } catch (InvocationTargetException | IllegalAccessException e) {
                    throw new IllegalStateException(name + " threw", e.getCause());
                }
            }
        }
        throw new IllegalStateException("there is no " + name);
    }

    private static String told(String name, int... args) {
        StringBuilder t = new StringBuilder(name).append('(');
        for (int i = 0; i < args.length; i++) {
            t.append(i == 0 ? "" : ", ").append(args[i]);
        }
        return t.append(')').toString();
    }

    // ---- an object in which there is something of everything

    private static final String PALACE =
            "floor 3 2;room .d.. 0 0;room .1.d 1 0;room w... 0 1;key 1 0;key 3 2;person 0;person 2;fixed 2";

    private static WalkingRooms busy() {
        WalkingRooms x = new WalkingRooms();
        x.seed(7);
        Texts.palace(x, PALACE);
        Texts.rule(x, "bar kind=3 and room=2");
        Texts.rule(x, "bar night>90");
        x.force(1);
        x.walk(1, 1, 1);
        x.draft(0);
        x.image(1);
        x.walk(3, 0, 0);
        x.draft(2);
        x.redraw(2, 1, 2, 1);
        x.rest();
        x.almanac(1, 1, 3);
        x.almanac(3, 1, 0);
        x.wish(0, 0, 2, 0);
        x.wish(1, 1, 0, 0);
        x.woke(1, 1, 0);
        x.image(2);
        x.law(1);
        Texts.onTape(x, "bar x=9");
        return x;
    }

    private static final String BUSY = Snapshot.of(busy());
    private static final String BUSY_IMAGES = Snapshot.withImages(busy());

    private static void unchanged(String what, WalkingRooms x, WalkingRooms twin) {
        Due.same("changed by " + what, Snapshot.of(x), BUSY);
        Due.same("changed by " + what, Snapshot.withImages(twin), BUSY_IMAGES);
    }

    // ---- without these

    /**
     * Each argument far out, the others as in the base: refused, and nothing happens.
     * Of each argument the least and the most that may be are told, and one beside these that means something else.
     */
    private static void refused(String name, int refusal, int[] base, int[][] may, int besides) {
        WalkingRooms x = busy();
        WalkingRooms twin = busy();
        int calls = 0;
        for (int i = 0; i < base.length; i++) {
            for (int far : FAR) {
                if (i < may.length && (far < may[i][0] || far > may[i][1]) && (i > 0 || far != besides)) {
                    int[] args = base.clone();
                    args[i] = far;
                    Due.is(told(name, args), answer(x, name, args), refusal);
                    answer(twin, name, args);
                    calls++;
                    if (calls % 50 == 0) {
                        unchanged(name, x, twin);
                        x = busy();
                        twin = busy();
                    }
                }
            }
        }
        unchanged(name, x, twin);
    }

    private static void refused(String name, int refusal, int[] base, int[]... may) {
        refused(name, refusal, base, may, 1234567);
    }

    /** Of each argument the least and the most that may be are not refused. */
    private static void taken(String name, int refusal, int[] base, int[]... may) {
        for (int i = 0; i < may.length; i++) {
            for (int edge : may[i]) {
                int[] args = base.clone();
                args[i] = edge;
                Due.is("not refused: " + told(name, args), answer(busy(), name, args) != refusal, true);
            }
        }
    }

    private static void both(String name, int refusal, int[] base, int[]... may) {
        refused(name, refusal, base, may);
        taken(name, refusal, base, may);
    }

    private static int[] of(int... numbers) {
        return numbers;
    }

    private static void withoutThese() {
        int[] rooms = {0, 2};
        Due.says("NONE, and nothing happens, if it has not so many, or n is below 0");
        both("end", NONE, of(7), of(0, 7));
        Due.says("-2, and nothing happens, without it, or a PALACE");
        both("force", -2, of(0), of(-1, 1));
        both("law", -2, of(0), of(0, 2));
        Due.says("NONE without these; -2 without that CELL");
        both("room", NONE, of(0, 0), rooms, of(0, 8));
        both("at", -2, of(0, 0), of(0, 2), of(0, 1));
        both("sleeps", NONE, of(0), of(0, 1));
        both("mismatch", NONE, of(0), of(0, 3));
        Due.says("BY HAND by day: -2, and nothing happens, without these, or if it is so");
        refused("brick", -2, of(1, 2, 2), rooms, of(0, 3), of(0, 6));
        taken("brick", -2, of(1, 2, 2), rooms, of(0, 3), of(1, 6));
        refused("lay", -2, of(3, 1), of(1, 4), of(NONE, 2));
        taken("lay", -2, of(3, 1), of(1, 4), of(NONE, 1));
        refused("bed", -2, of(0, 1), of(0, 1), rooms);
        taken("bed", -2, of(0, 1), of(0, 1), of(1, 2));
        both("fix", 0, of(0, 1), of(0, 1));
        Due.says("walk: NONE without these");
        refused("walk", NONE, of(1, 0, 1), of(1, 3), rooms, of(0, 3));
        taken("walk", NONE, of(1, 0, 1), of(1, 2), rooms, of(0, 3));
        refused("walk", NONE, of(2, 0, 1), of(1, 3), rooms, of(1, 2));
        taken("walk", NONE, of(2, 0, 1), of(1, 2), of(2), of(1, 2));
        refused("walk", NONE, of(3, 0, 0), of(1, 3), rooms, of(0, 0));
        taken("walk", NONE, of(3, 0, 0), of(1, 3), rooms, of(0, 0));
        Due.says("choice: NONE without these");
        int can = busy().can();
        Due.is("can()", can > 3, true);
        both("choice", NONE, of(0, 0), of(0, can - 1), of(0, 3));
        drafts(rooms);
        questions(rooms);
    }

    private static void drafts(int[] rooms) {
        Due.says("draft: NONE without these (DRAFT 0 to 3)");
        both("draft", NONE, of(0), of(0, 3));
        Due.says("redraw: false, and nothing happens, without these, or an EMPTY CELL");
        refused("redraw", 0, of(0, 3, 0, 0), of(0, 2), of(1, 3), rooms, of(0, 0));
        taken("redraw", 0, of(0, 3, 0, 0), of(0, 2), of(3), rooms, of(0, 0));
        refused("redraw", 0, of(0, 2, 0, 1), of(0, 2), of(1, 3), rooms, of(1, 2));
        taken("redraw", 0, of(0, 2, 0, 1), of(0, 2), of(1, 2), of(2), of(1, 2));
        refused("redraw", 0, of(0, 1, 0, 1), of(0, 2), of(1, 3), rooms, of(0, 3));
        Due.says("drafted, nights, row, marks: NONE without these");
        both("drafted", NONE, of(2, 0, 0), of(0, 2), rooms, of(0, 1));
        both("nights", NONE, of(2), of(0, 2));
        both("row", NONE, of(0, 0, 0), of(0, 2), of(0, Integer.MAX_VALUE), of(0, 2));
        both("marks", NONE, of(2), of(0, 2));
        for (String name : new String[] {"drafted", "nights", "row", "marks", "redraw"}) {
            for (int draft : of(1, 3)) {
                int[] args = name.equals("drafted") || name.equals("row") ? of(draft, 0, 0)
                        : name.equals("redraw") ? of(draft, 3, 0, 0) : of(draft);
                Due.is("never drafted: " + told(name, args), answer(busy(), name, args), name.equals("redraw") ? 0 : NONE);
            }
        }
    }

    private static void questions(int[] rooms) {
        Due.says("NONE without these");
        both("steps", NONE, of(0, 1), rooms, rooms);
        both("reach", NONE, of(0, 0), rooms, of(0, 1));
        Due.says("GOSSIP (n 0 to 16); NONE without these");
        both("gossip", NONE, of(0, 0), rooms, of(0, 16));
        Due.says("almanac: -2, and nothing happens, without these");
        refused("almanac", -2, of(1, 0, 0), new int[][] {of(1, 3), rooms, of(0, 3)}, NONE);
        refused("almanac", -2, of(2, 0, 1), new int[][] {of(1, 3), rooms, of(1, 2)}, NONE);
        refused("almanac", -2, of(3, 0, 0), new int[][] {of(1, 3), rooms, of(0, 0)}, NONE);
        taken("almanac", -2, of(1, 0, 0), of(1, 3), rooms, of(0, 3));
        Due.says("would: NONE without these (0 to as many as it has)");
        both("would", NONE, of(0, 0, 0), rooms, of(0, 2), of(0, 2));
        Due.says("wish: -2, and nothing happens, without these (a CELL of the floor by x, y; NIGHTS 0 to 10)");
        refused("wish", -2, of(0, 0, 0, 0), new int[][] {of(0, 1), of(0, 10), of(0, 2), of(0, 1)}, NONE);
        taken("wish", -2, of(0, 0, 0, 0), of(0, 1), of(0, 10), of(0, 2), of(0, 1));
        Due.says("beds, almost, guards, drift: NONE without these");
        both("beds", NONE, of(0), of(0, 6));
        both("almost", NONE, of(0, 0), of(0, 1), rooms);
        both("guards", NONE, of(0), of(0, 1));
        both("drift", NONE, of(0), of(0, 2));
        Due.says("woke: -2, and nothing happens, without these (a CELL of the floor)");
        refused("woke", -2, of(0, 0, 0), new int[][] {rooms, of(0, 2), of(0, 1)}, NONE);
        taken("woke", -2, of(0, 0, 0), rooms, of(0, 2), of(0, 1));
        Due.says("how, built: NONE without these");
        both("how", NONE, of(0, 0), of(0, 3), of(0, 6));
        both("built", NONE, of(1, 1, 0), of(1, 2), of(0, 1), of(0, 4));
        Due.is("not EMPTY", busy().built(2, 0, 0), NONE);
        Due.says("seed: NONE, and nothing happens, below 0");
        both("seed", NONE, of(0), of(0, Integer.MAX_VALUE));
        Due.says("drawn: NONE without these (unlike ROOMS)");
        both("drawn", NONE, of(1, 1, 0, 1, 0), of(1, 10), of(1, 60), of(0, 2), of(1, 2), of(0, 2));
        Due.says("count, image, back: NONE for others, without it, if it was never made");
        both("count", NONE, of(0), of(0, 16));
        both("image", NONE, of(0), of(0, 3));
        refused("back", NONE, of(0), of(1, 2));
        Due.is("back(1)", busy().back(1), 1);
        Due.is("back(2)", busy().back(2), 3);
        for (int room = 0; room < 3; room++) {
            Due.is("unlike ROOMS", busy().drawn(1, 1, room, room, 0), NONE);
            Due.is("unlike ROOMS", busy().walk(2, room, room), NONE);
            Due.is("unlike ROOMS", busy().almanac(2, room, room), -2);
            Due.is("unlike ROOMS", busy().redraw(0, 2, room, room), false);
        }
    }

    // ---- if it is so, if there are so many

    private static void ifItIsSo() {
        Due.says("or if it is so");
        WalkingRooms x = busy();
        WalkingRooms twin = busy();
        for (WalkingRooms y : List.of(x, twin)) {
            for (int room = 0; room < 3; room++) {
                for (int side = 0; side < 4; side++) {
                    Due.is("brick", y.brick(room, side, y.room(room, 2 + side)), -2);
                }
                Due.is("fix", y.fix(room, y.room(room, 6) == 1), false);
            }
            Due.is("lay(1, 0)", y.lay(1, 0), -2);
            Due.is("lay(3, 2)", y.lay(3, 2), -2);
            Due.is("lay(2, NONE)", y.lay(2, NONE), -2);
            Due.is("lay(4, NONE)", y.lay(4, NONE), -2);
            Due.is("bed(0, 0)", y.bed(0, 0), -2);
            Due.is("bed(1, 2)", y.bed(1, 2), -2);
        }
        unchanged("what is so", x, twin);
        Due.says("feed: NONE, and none comes, if it would have more than 400");
        for (int length = 360; length <= 400; length++) {
            x = new WalkingRooms();
            for (int k = 0; k < 20; k++) {
                x.feed(k, k, k, k, k);
            }
            x.end(length);
            Due.is("feed behind " + length, x.feed(0, 0, 0, 0, 0), length <= 380 ? length + 20 : NONE);
            Due.is("count(14)", x.count(14), length <= 380 ? length + 20 : length);
        }
        Due.says("or if it has 10; if there are 12; if there are 8");
        x = busy();
        for (int k = 3; k <= 10; k++) {
            Due.is("almanac", x.almanac(3, 0, 0), k);
        }
        for (int k = 3; k <= 12; k++) {
            Due.is("wish", x.wish(1, 10, 2, 1), k);
        }
        for (int k = 2; k <= 8; k++) {
            Due.is("woke", x.woke(2, 2, 1), k);
        }
        for (int k = 0; k < 2; k++) {
            Due.is("almanac", x.almanac(3, 0, 0), -2);
            Due.is("wish", x.wish(1, 10, 2, 1), -2);
            Due.is("woke", x.woke(2, 2, 1), -2);
        }
        Due.is("count(10)", x.count(10), 10);
        Due.is("count(11)", x.count(11), 12);
        Due.is("count(12)", x.count(12), 8);
        Due.is("there are none then", x.almanac(NONE, -9, 99), 0);
        Due.is("there are none then", x.wish(NONE, -9, 99, 99), 0);
        Due.is("none is told then", x.woke(NONE, -9, 99), 0);
        Due.is("count(10)", x.count(10) + x.count(11) + x.count(12), 0);
        Due.is("from the first on", x.almanac(3, 1, 0), 1);
        Due.is("from the first on", x.wish(1, 1, 1, 1), 1);
        Due.is("from the first on", x.woke(1, 1, 1), 1);
        refusedWalks();
    }

    private static void refusedWalks() {
        Due.says("walk: below 0, and nothing happens: -2 less the number of the LAW that is broken");
        boolean[] laws = new boolean[7];
        for (int force = 0; force < 2; force++) {
            WalkingRooms x = busy();
            WalkingRooms twin = busy();
            for (int code = 0; code < 36; code++) {
                int kind = 1 + code / 12;
                int room = code / 4 % 3;
                int other = code % 4;
                WalkingRooms probe = busy();
                probe.force(force);
                int answer = probe.walk(kind, room, other);
                if (answer < 0) {
                    laws[-answer] = true;
                    for (WalkingRooms y : List.of(x, twin)) {
                        y.force(force);
                        Due.is(told("walk", kind, room, other), y.walk(kind, room, other), answer);
                        y.force(1);
                    }
                }
            }
            unchanged("refused WALKS", x, twin);
        }
        Due.is("NONE, and LAWS 1 to 3 were among the answers", laws[1] && laws[3] && laws[4] && laws[5], true);
    }

    // ---- what is asked, FAULTS, PALACES and IMAGES

    private static void askAll(WalkingRooms x) {
        int[][] asks = {{0, 1}, {1, 2}, {0, 2}};
        for (int[] a : asks) {
            x.steps(a[0], a[1]);
            x.reach(a[1], a[0]);
            x.gossip(a[0], 16);
            x.would(a[0], 2, a[1]);
            x.beds(a[1]);
            x.almost(a[0], a[1]);
            x.drawn(2, 9, a[0], a[1], 0);
            x.how(2, a[1]);
            x.built(2, 1, a[1]);
            x.choice(a[1], 3);
            x.mismatch(a[1]);
            x.drafted(0, a[0], 1);
            x.row(2, a[1], 0);
            x.nights(a[0]);
            x.marks(2);
            x.guards(1);
            x.drift(a[1]);
        }
        x.how(3, 0);
        x.floors();
        x.best();
        x.can();
        x.at(0, 0);
        x.sleeps(1);
        x.count(9);
    }

    private static void asked() {
        Due.says("(By what is asked nothing changes.)");
        WalkingRooms x = busy();
        WalkingRooms twin = busy();
        askAll(x);
        askAll(twin);
        unchanged("what is asked", x, twin);
    }

    private static void faults() {
        Due.says("-2 - its FAULT, and all stays");
        String[] palaces = {"", "floor", "floor 9 9", "floor 4 4;room dddd 3 3;fixed 0;key 1 0;person 0;ways 2;",
            "floor 1 1;room .... 0 0;person 0;person 0;person 0;person 0;person 0;person 0;person 0",
            "floor 2 2;room .... 0 0;room .... 0 0", "bar x=1"};
        for (String wrong : palaces) {
            WalkingRooms x = busy();
            WalkingRooms twin = busy();
            for (WalkingRooms y : List.of(x, twin)) {
                Due.is("palace " + wrong, Texts.palace(y, wrong) < -2, true);
                Due.is("the TAPE is empty then", y.count(14), 0);
                Texts.onTape(y, "bar x=9");
            }
            unchanged("palace " + wrong, x, twin);
        }
        for (String wrong : new String[] {"", "bar", "bar x=1;", "bar x=1;bar 123456", "floor 1 1", "bar [x=1"}) {
            WalkingRooms x = busy();
            WalkingRooms twin = busy();
            for (WalkingRooms y : List.of(x, twin)) {
                Due.is("rule " + wrong, Texts.rule(y, wrong) < -2, true);
                Due.is("the TAPE is empty then", y.count(14), 0);
                Texts.onTape(y, "bar x=9");
            }
            unchanged("rule " + wrong, x, twin);
        }
        Due.says("rule: its number");
        WalkingRooms x = busy();
        for (int k = 2; k < 6; k++) {
            Due.is("rule", Texts.rule(x, "bar x=1"), k);
            Due.is("the RULE IN FORCE stays", x.count(7), 1);
        }
        Texts.onTape(x, "bar x=1");
        Due.is("rule", x.rule(), NONE);
        Due.is("the TAPE stays", x.count(14), 7);
    }

    private static WalkingRooms plain(String palace) {
        WalkingRooms x = new WalkingRooms();
        x.seed(7);
        Texts.rule(x, "bar kind=3 and room=2");
        Texts.rule(x, "bar night>90");
        Texts.palace(x, palace);
        return x;
    }

    /** All that nights, days and words leave behind them, in whatever PALACE there is. */
    private static void stir(WalkingRooms x) {
        x.law(2);
        x.law(1);
        x.force(0);
        x.fix(0, x.room(0, 6) == 0);
        x.lay(4, 0);
        x.lay(2, 0);
        x.bed(0, 0);
        x.brick(0, 0, 5);
        x.rest();
        x.walk(3, 1, 0);
        x.rest();
        for (int k = 0; k < 4; k++) {
            x.draft(k);
            x.almanac(3, 0, 0);
            x.wish(0, k, 0, 0);
            x.woke(0, 0, 0);
        }
    }

    private static void palaces() {
        Due.says("in place of the one there was (LAW 0, no RULE IN FORCE, no NIGHTS, DRAFTS, ALMANAC, WISHES, nobody WOKE)");
        String[] texts = {"floor 1 1", "floor 4 4;room .... 3 3;room .d.. 0 0", PALACE, "floor 2 1;room .... 1 0;ways 3",
            "floor 1 4;room .... 0 3;room d... 0 0;room .... 0 1;room .... 0 2;person 3;person 0;person 2;key 4 1"};
        WalkingRooms x = plain("floor 1 1");
        for (int k = 0; k < 15; k++) {
            String text = texts[(k * k + k / 5) % texts.length];
            stir(x);
            Due.is("palace " + text, Texts.palace(x, text), plain(text).count(2));
            Due.is("x stays", x.count(13), 7);
            Due.is("RULES stay", x.count(6), 2);
            WalkingRooms y = plain("floor 1 1");
            for (int before = k - 2; before <= k; before++) {
                stir(y);
                Texts.palace(y, texts[(before * before + Math.max(0, before) / 5) % texts.length]);
            }
            Due.same("behind some others: " + text, Snapshot.of(y), Snapshot.of(plain(text)));
        }
        Due.says("IMAGES stay behind a new PALACE");
        x = busy();
        Texts.palace(x, "floor 1 1");
        Due.is("back(2)", x.back(2), 3);
        Due.is("ROOMS", x.count(2), 3);
    }

    private static void images() {
        Due.says("IMAGES: all but the RULES and the TAPE, as it is (what can be UNDONE, too); gone back to, it is as it was");
        for (int k = 0; k < 4; k++) {
            WalkingRooms x = busy();
            Due.is("image", x.image(k), 3);
            String[] texts = {"floor 1 1", "floor 3 4;room d... 2 3;room .d.. 1 1;ways 5;fixed 1",
                "floor 1 1;room wwww 0 0;person 0;person 0;person 0;ways 1", PALACE};
            x.seed(99);
            stir(x);
            Texts.palace(x, texts[k]);
            stir(x);
            Texts.onTape(x, "bar x=9");
            Due.is("back", x.back(k), 3);
            Due.same("gone back to " + k, Snapshot.of(x), BUSY);
        }
        Due.says("these stay");
        WalkingRooms x = busy();
        x.image(0);
        Texts.rule(x, "bar y=1");
        x.force(2);
        x.image(3);
        Texts.onTape(x, "floor");
        x.back(0);
        Due.is("RULES", x.count(6), 3);
        Due.is("TAPE", x.count(14), 5);
        Due.is("the RULE IN FORCE", x.count(7), 1);
        x.back(3);
        Due.is("the RULE IN FORCE", x.count(7), 2);
        Due.says("All is as in an IMAGE; NONE, and nothing happens, if it was never made");
        Due.is("back(0)", busy().back(0), NONE);
        Due.is("back(3)", busy().back(3), NONE);
        x = new WalkingRooms();
        Due.is("of no PALACE", x.image(2), 0);
        Texts.palace(x, PALACE);
        Due.is("NIGHTS", x.rest(), 1);
        Due.is("back(2)", x.back(2), 0);
        Due.is("no PALACE", x.rest(), NONE);
        Due.is("no CELLS", x.at(0, 0), -2);
        Due.is("no PALACE", x.law(0), -2);
        List<Integer> nights = new ArrayList<>();
        x = with("floor 1 1;room .... 0 0");
        for (int k = 0; k < 4; k++) {
            nights.add(x.image(k));
            x.walk(3, 0, 0);
        }
        for (int k = 3; k >= 0; k--) {
            Due.is("each its own", x.back(k), nights.get(k));
            Due.is("turns", x.room(0, 1), k);
            Due.is("what can be UNDONE", x.count(9), k);
        }
        Due.is("made anew", x.image(3), 0);
        Due.is("back(2)", x.back(2), 2);
        Due.is("back(3)", x.back(3), 0);
        Due.is("back(1)", x.back(1), 1);
        Due.is("undo()", x.undo(), 0);
        Due.is("the IMAGE is not undone", x.back(1), 1);
        Due.is("what can be UNDONE", x.count(9), 1);
    }

    // ---- without a PALACE

    private static void noPalace() {
        Due.says("A new object: No PALACE, no RULES");
        Object[][] answers = {{"force", -2, of(NONE)}, {"law", -2, of(0)}, {"room", NONE, of(0, 0)}, {"at", -2, of(0, 0)},
            {"sleeps", NONE, of(0)}, {"mismatch", NONE, of(0)}, {"mismatch", NONE, of(1)}, {"brick", -2, of(0, 0, 1)},
            {"lay", -2, of(1, NONE)}, {"lay", -2, of(1, 0)}, {"bed", -2, of(0, 0)}, {"fix", 0, of(0, 1)},
            {"fix", 0, of(0, 0)}, {"walk", NONE, of(1, 0, 0)}, {"walk", NONE, of(2, 0, 1)}, {"walk", NONE, of(3, 0, 0)},
            {"rest", NONE, of()}, {"undo", -2, of()}, {"can", NONE, of()}, {"choice", NONE, of(0, 0)}, {"draft", NONE, of(0)},
            {"redraw", 0, of(0, 3, 0, 0)}, {"drafted", NONE, of(0, 0, 0)}, {"nights", NONE, of(0)}, {"row", NONE, of(0, 0, 0)},
            {"marks", NONE, of(0)}, {"floors", NONE, of()}, {"steps", NONE, of(0, 0)}, {"reach", NONE, of(0, 0)},
            {"gossip", NONE, of(0, 0)}, {"almanac", 0, of(NONE, 0, 0)}, {"almanac", -2, of(3, 0, 0)},
            {"would", NONE, of(0, 0, 0)}, {"follow", NONE, of()}, {"wish", 0, of(NONE, 0, 0, 0)}, {"wish", -2, of(0, 0, 0, 0)},
            {"beds", NONE, of(0)}, {"beds", NONE, of(1)}, {"almost", NONE, of(0, 0)}, {"guards", NONE, of(0)},
            {"guards", NONE, of(1)}, {"drift", NONE, of(0)}, {"drift", NONE, of(1)}, {"woke", 0, of(NONE, 0, 0)},
            {"woke", -2, of(0, 0, 0)}, {"how", NONE, of(0, 0)}, {"built", NONE, of(0, 0, 0)}, {"best", NONE, of()},
            {"seed", 0, of(0)}, {"drawn", NONE, of(1, 1, 0, 1, 0)}, {"image", 0, of(0)}, {"count", NONE, of(7)},
            {"count", NONE, of(17)}, {"count", NONE, of(-1)}, {"end", 0, of(0)}, {"end", NONE, of(1)}};
        for (int times = 0; times < 2; times++) {
            WalkingRooms x = new WalkingRooms();
            for (int k = 0; k < 4; k++) {
                Due.is("back(" + k + ")", x.back(k), NONE);
            }
            for (Object[] a : answers) {
                Due.is(told((String) a[0], (int[]) a[2]), answer(x, (String) a[0], (int[]) a[2]), (Integer) a[1]);
            }
            for (int what = 0; what <= 16; what++) {
                Due.is("count(" + what + ")", x.count(what), what == 7 ? NONE : 0);
            }
            // A wrong PALACE is none.
            Due.is("palace", Texts.palace(x, "floor 2 2;room .... 0 0;"), -2 - (1 + 8 * 24));
            for (Object[] a : answers) {
                Due.is(told((String) a[0], (int[]) a[2]), answer(x, (String) a[0], (int[]) a[2]), (Integer) a[1]);
            }
        }
        Due.says("a PALACE without ROOMS");
        WalkingRooms x = with("floor 2 2");
        Due.is("can()", x.can(), 0);
        Due.is("choice(0, 0)", x.choice(0, 0), NONE);
        Due.is("mismatch(0)", x.mismatch(0), 0);
        Due.is("mismatch(1)", x.mismatch(1), -2);
        Due.is("rest()", x.rest(), 1);
        Due.is("draft(0)", x.draft(0), 0);
        Due.is("nights(0)", x.nights(0), 0);
        Due.is("row(0, 0, 0)", x.row(0, 0, 0), -2);
        Due.is("marks(0)", x.marks(0), 0);
        Due.is("floors()", x.floors(), 1);
        Due.is("lay(1, NONE)", x.lay(1, NONE), -2);
        Due.is("follow()", x.follow(), 0);
        Due.is("how(0, 0)", x.how(0, 0), 1);
        Due.is("how(1, 0)", x.how(1, 0), 0);
        Due.is("guards(0)", x.guards(0), 0);
        Due.is("beds(0)", x.beds(0), 1);
        Due.is("best()", x.best(), 0);
        Due.is("undo()", x.undo(), 0);
    }

    private static void tape() {
        Due.says("The TAPE, which is empty then");
        WalkingRooms x = new WalkingRooms();
        Due.is("palace", Texts.palace(x, "floor 1 1"), 0);
        Due.is("count(14)", x.count(14), 0);
        Due.is("end(1)", x.end(1), NONE);
        Due.is("an empty text", x.palace(), -3);
        Due.is("rule", Texts.rule(x, "bar x=1"), 0);
        Due.is("count(14)", x.count(14), 0);
        Due.is("an empty text", x.rule(), -3);
        Due.says("The TAPE has its first n bytes alone");
        for (int n = 0; n <= 20; n++) {
            x = new WalkingRooms();
            // floor 4 3; and blanks
            x.feed(0x666c6f6f, 0x72203420, 0x33202020, 0x20202020, 0x20202020);
            Due.is("end", x.end(n), n);
            Due.is("count(14)", x.count(14), n);
            Due.is("end", x.end(n + 1), NONE);
            Due.is("palace()", x.palace(), n >= 9 ? 0 : -2 - (1 + 8 * (n < 5 ? 0 : n)));
        }
        Due.says("Twenty bytes come behind the TAPE, of each number the highest first");
        for (int at = 0; at < 20; at++) {
            x = new WalkingRooms();
            x.feed(0x666c6f6f, 0x72203420, 0x333b726f, 0x6f6d202e, 0x2e2e2e20);
            int[] five = {0x20202020, 0x20202020, 0x20202020, 0x20202020, 0x20202020};
            five[at / 4] ^= 0xa0 << 24 - 8 * (at % 4);
            Due.is("feed", x.feed(five[0], five[1], five[2], five[3], five[4]), 40);
            Due.is("the byte 128", x.palace(), -2 - (1 + 8 * (20 + at)));
        }
    }

    public static void main(String[] args) {
        noPalace();
        tape();
        withoutThese();
        ifItIsSo();
        asked();
        faults();
        palaces();
        images();
        Due.end();
    }
}

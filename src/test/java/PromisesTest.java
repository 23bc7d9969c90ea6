import java.util.ArrayList;
import java.util.HashMap;
import java.util.List;
import java.util.Map;

/** For each promise of the document: ordinary inputs, the edges it names, and wrong inputs. */
public final class PromisesTest {
    /** Two halls with a door between them, a closet beside; one CELL is EMPTY. */
    private static final String HALLS =
            "floor 2 2;room ..d. 0 0;room d... 0 1;room .... 1 0;key 1 0;person 0;person 2";
    /** Three in a row: through the first door, locked by 1, then one locked by 2. */
    private static final String ROW = "floor 3 1;room .d.. 0 0;room .1.d 1 0;room ...2 2 0;key 1 0;key 2 1";
    private static final int NONE = WalkingRooms.NONE;

    private static int wrong = 0;
    private static int asked = 0;
    private static int promise = 0;

    private static void due(String call, long got, long want) {
        asked++;
        if (got != want) {
            wrong++;
            System.out.println("promise " + promise + ": " + call + " answered " + got + ", due is " + want);
        }
    }

    private static void due(String call, boolean got, boolean want) {
        due(call, got ? 1 : 0, want ? 1 : 0);
    }

    private static WalkingRooms with(String palace) {
        WalkingRooms x = new WalkingRooms();
        if (Texts.palace(x, palace) < 0) {
            due("palace " + palace, -1, 0);
        }
        return x;
    }

    private static WalkingRooms with(String palace, String rule) {
        WalkingRooms x = with(palace);
        due("rule " + rule, Texts.rule(x, rule), 0);
        due("force(0)", x.force(0), NONE);
        return x;
    }

    private static void palaceFault(String text, int place, int code) {
        WalkingRooms x = with(HALLS);
        due("palace " + text, Texts.palace(x, text), -2 - (1 + 8 * place + code));
        due("ROOMS behind the FAULT", x.count(2), 3);
        due("TAPE behind the FAULT", x.count(14), 0);
    }

    private static void ruleFault(String text, int place, int code) {
        WalkingRooms x = new WalkingRooms();
        due("rule " + text, Texts.rule(x, text), -2 - (1 + 8 * place + code));
        due("RULES behind the FAULT", x.count(6), 0);
        due("TAPE behind the FAULT", x.count(14), 0);
    }

    private static String times(String text, int n) {
        return text.repeat(n);
    }

    // ---- 1 to 7

    private static void p1() {
        WalkingRooms x = new WalkingRooms();
        for (int what = 0; what <= 16; what++) {
            due("count(" + what + ")", x.count(what), what == 7 ? NONE : 0);
        }
        due("can()", x.can(), NONE);
        due("at(0, 0)", x.at(0, 0), -2);
        due("force(0)", x.force(0), -2);
        due("back(0)", x.back(0), NONE);
    }

    private static void p2() {
        WalkingRooms x = new WalkingRooms();
        for (int k = 1; k <= 20; k++) {
            due("feed", x.feed(k, k, k, k, k), 20 * k);
        }
        due("feed to 420", x.feed(1, 1, 1, 1, 1), NONE);
        due("count(14)", x.count(14), 400);
        x.end(381);
        due("feed to 401", x.feed(1, 1, 1, 1, 1), NONE);
        x.end(380);
        due("feed to 400", x.feed(1, 1, 1, 1, 1), 400);
        // f l o o | r _ 3 _ | 2 ; r o | o m . d | w 1 0 1: the highest byte of each comes first.
        x = new WalkingRooms();
        due("feed", x.feed(0x666c6f6f, 0x72203320, 0x323b726f, 0x6f6d2e64, 0x77312031), 20);
        due("feed", x.feed(0x20303b66, 0x69786564, 0x20303b20, 0x20202020, 0x80ffff00), 40);
        due("end", x.end(30), 30);
        due("palace()", x.palace(), 1);
        due("columns", x.count(0), 3);
        due("rows", x.count(1), 2);
        due("room(0, 0)", x.room(0, 0), 1);
        due("room(0, 3)", x.room(0, 3), 1);
        due("room(0, 5)", x.room(0, 5), 3);
        due("room(0, 6)", x.room(0, 6), 1);
    }

    private static void p3() {
        WalkingRooms x = new WalkingRooms();
        due("end(0)", x.end(0), 0);
        due("end(1)", x.end(1), NONE);
        x.feed(1, 2, 3, 4, 5);
        due("end(21)", x.end(21), NONE);
        due("end(-1)", x.end(-1), NONE);
        due("count(14)", x.count(14), 20);
        due("end(20)", x.end(20), 20);
        due("end(7)", x.end(7), 7);
        due("end(8)", x.end(8), NONE);
        due("count(14)", x.count(14), 7);
        due("feed", x.feed(0, 0, 0, 0, 0), 27);
    }

    private static void p4() {
        WalkingRooms x = with(HALLS);
        x.seed(77);
        Texts.rule(x, "bar x=9");
        x.force(0);
        x.law(1);
        x.rest();
        x.draft(1);
        x.almanac(3, 0, 0);
        x.wish(0, 0, 0, 0);
        x.woke(0, 0, 0);
        due("palace", Texts.palace(x, " floor 4  3 ; room1234 3 2 ;ways5"), 1);
        int[] counts = {4, 3, 1, 0, 5, 0, 1, NONE, 0, 0, 0, 0, 0, 77, 0, 11, 0};
        for (int what = 0; what < counts.length; what++) {
            due("count(" + what + ")", x.count(what), counts[what]);
        }
        due("room(0, 0)", x.room(0, 0), 11);
        for (int side = 0; side < 4; side++) {
            due("room(0, side)", x.room(0, 2 + side), 3 + side);
        }
        due("undo()", x.undo(), -2);
        due("palace", Texts.palace(x, "floor 1 1"), 0);
        due("ways", x.count(4), 7);
        due("palace", Texts.palace(x, "floor 2 1;room .... 0 0;room dddd 1 0;key 1 0;key 1 1;fixed 1;fixed 1"), 2);
        due("keys", x.room(0, 7), 0);
        due("keys", x.room(1, 7), 2);
        due("fixed", x.room(1, 6), 1);
        due("NUMBER", Texts.palace(x, "floor 00002 00003"), 0);
        due("sign and number", Texts.palace(x, "floor2 2;room 11111 0"), 1);
        due("cell", x.room(0, 0), 1);
        for (int k = 0; k < 3; k++) {
            due("with KEYS and NIGHTS", Texts.palace(x, HALLS), 3);
            due("KEYS", x.room(0, 7), 2);
            due("rest()", x.rest(), 1);
            due("fix", x.fix(1, true), true);
            due("rest()", x.rest(), 2);
            due("a smaller one", Texts.palace(x, "floor 1 1"), 0);
            due("without them", Texts.palace(x, "floor 2 2;room .... 0 0;room .... 1 0"), 2);
            due("KEYS", x.room(0, 7), 0);
            due("fixed", x.room(1, 6), 0);
            due("undo()", x.undo(), -2);
            due("EMPTY", x.at(0, 1), NONE);
        }
        palaceFaults();
        palaceLimits();
    }

    private static void palaceFaults() {
        palaceFault("", 0, 0);
        palaceFault("   ", 3, 0);
        palaceFault(";", 0, 0);
        palaceFault("flor 2 2", 0, 0);
        palaceFault("floors 2 2", 0, 0);
        palaceFault("Floor 2 2", 0, 0);
        palaceFault("floor", 5, 0);
        palaceFault("floor 2  ", 9, 0);
        palaceFault("floor 2 2;", 10, 0);
        palaceFault("floor 2 2;;", 10, 0);
        palaceFault("floor 2 2 2", 10, 0);
        palaceFault("floor 2 2 ; x", 12, 0);
        palaceFault("floor 2 2\0", 9, 0);
        palaceFault("floor\t2 2", 5, 0);
        palaceFault("floor 2 \u00e9", 8, 0);
        palaceFault("floor 0 2", 6, 1);
        palaceFault("floor 5 x", 6, 1);
        palaceFault("floor 2 5", 8, 1);
        palaceFault("floor 22", 6, 1);
        palaceFault("floor 000001 2", 6, 1);
        palaceFault("room .... 0 0", 0, 4);
        palaceFault("  ways 1", 2, 4);
        palaceFault("rooms .... 0 0", 0, 0);
        palaceFault("floor 2 2; floor 2 2", 11, 4);
        palaceFault("floor 2 2;ways 0", 15, 1);
        palaceFault("floor 2 2;ways 8", 15, 1);
        palaceFault("floor 2 2;ways 7;ways 7", 17, 4);
        palaceFault("floor 2 2;room ... 0 0", 18, 0);
        palaceFault("floor 2 2;room ...", 18, 0);
        palaceFault("floor 2 2;room .5.. 0 0", 16, 0);
        palaceFault("floor 2 2;room . ... 0 0", 16, 0);
        palaceFault("floor 2 2;room ..... 0 0", 19, 0);
        palaceFault("floor 2 2;roomd... 0 0", 10, 0);
        palaceFault("floor 2 2;room .... 0", 21, 0);
        palaceFault("floor 2 2;room .... 4 0", 20, 1);
        palaceFault("floor 2 2;room .... 2 4", 22, 1);
        palaceFault("floor 2 2;room .... 2 x", 22, 0);
        palaceFault("floor 2 2;room .... 2 1", 20, 5);
        palaceFault("floor 2 2;room ....  1 2 x", 21, 5);
        palaceFault("floor 2 2;room .... 0 1;room .... 0 1", 34, 5);
        palaceFault("floor 2 2;fixed 0", 16, 1);
        palaceFault("floor 2 2;room .... 0 0;fixed 1", 30, 1);
        palaceFault("floor 2 2;room .... 0 0;key 0 0", 28, 1);
        palaceFault("floor 2 2;room .... 0 0;key 5 0", 28, 1);
        palaceFault("floor 2 2;room .... 0 0;key 4 1", 30, 1);
        palaceFault("floor 2 2;room .... 0 0;key 4", 29, 0);
        palaceFault("floor 2 2;room .... 0 0;person 1", 31, 1);
        palaceFault("floor 2 2;person 0", 17, 1);
    }

    private static void palaceLimits() {
        StringBuilder twelve = new StringBuilder("floor 4 4");
        for (int room = 0; room < 12; room++) {
            twelve.append(";room .... ").append(room % 4).append(' ').append(room / 4);
        }
        due("twelve ROOMS", Texts.palace(new WalkingRooms(), twelve.toString()), 12);
        palaceFault(twelve + ";room .... 0 3", twelve.length() + 1, 4);
        palaceFault(twelve + ";rooms", twelve.length() + 1, 0);
        String one = "floor 1 1;room .... 0 0";
        WalkingRooms x = with(one + times(";person 0", 6));
        due("six PEOPLE", x.count(3), 6);
        palaceFault(one + times(";person 0", 6) + ";person 9", one.length() + 6 * 9 + 1, 4);
        due("forty CLAUSES", Texts.palace(x, one + times(";fixed 0", 38)), 1);
        int behind = one.length() + 8 * 38;
        palaceFault(one + times(";fixed 0", 38) + ";fixed 0", behind + 1, 4);
        palaceFault(one + times(";fixed 0", 38) + ";fix 0", behind + 1, 0);
        palaceFault(one + times(";fixed 0", 38) + ";", behind + 1, 0);
    }

    private static void p5() {
        WalkingRooms x = new WalkingRooms();
        for (int k = 0; k < 6; k++) {
            due("rule", Texts.rule(x, k % 2 == 0 ? "bar x=1" : "bar not[x<1 or y>=2+3*4]and 1<=2;bar kind=1"), k);
        }
        Texts.onTape(x, "bar x=1");
        due("a seventh", x.rule(), NONE);
        due("TAPE", x.count(14), 7);
        due("RULES", x.count(6), 6);
        x.end(2);
        due("a seventh, wrong", x.rule(), NONE);
        ruleFault("", 0, 0);
        ruleFault("ban x=1", 0, 0);
        ruleFault("barx=1", 0, 0);
        ruleFault("bar", 3, 0);
        ruleFault("bar  ", 5, 0);
        ruleFault("bar 1", 5, 0);
        ruleFault("bar z=1", 4, 0);
        ruleFault("bar notx=1", 4, 0);
        ruleFault("bar xz=1", 4, 0);
        ruleFault("bar xa=1", 4, 0);
        ruleFault("bar -1=1", 4, 0);
        ruleFault("bar x=", 6, 0);
        ruleFault("bar x= =1", 7, 0);
        ruleFault("bar x< =1", 7, 0);
        ruleFault("bar x=<1", 6, 0);
        ruleFault("bar x<>1", 6, 0);
        ruleFault("bar x=1=1", 7, 0);
        ruleFault("bar x=not", 6, 0);
        ruleFault("bar x+[1]=1", 6, 0);
        ruleFault("bar x=1]", 7, 0);
        ruleFault("bar [x=1", 8, 0);
        ruleFault("bar [x=1;bar x=1]", 8, 0);
        ruleFault("bar [x=1]=1", 9, 0);
        ruleFault("bar [x=1]+1", 9, 0);
        ruleFault("bar [x]=1", 6, 0);
        ruleFault("bar x=1 andy=2", 8, 0);
        ruleFault("bar x and y", 6, 0);
        ruleFault("bar x=1 y", 8, 0);
        ruleFault("bar x=1 and", 11, 0);
        ruleFault("bar x=1;", 8, 0);
        ruleFault("bar x=1 bar y=1", 8, 0);
        ruleFault("bar x=1;not x=1", 8, 0);
        ruleFault("bar x=123456", 6, 1);
        due("five digits", Texts.rule(new WalkingRooms(), "bar x=12345and y=0"), 0);
        ruleLimits();
    }

    private static void ruleLimits() {
        String ten = times("[", 10);
        due("ten deep", Texts.rule(new WalkingRooms(), "bar " + ten + "x=1" + times("]", 10)), 0);
        due("ten deep", Texts.rule(new WalkingRooms(), "bar " + times("not ", 10) + "x=1 and " + times("not[", 5)
                + "x=1" + times("]", 5)), 0);
        ruleFault("bar " + ten + "[x=1", 14, 2);
        ruleFault("bar " + times("not ", 10) + "not x=1", 44, 2);
        ruleFault("bar " + times("not[", 5) + "not x", 24, 2);
        // 20 FACTS of two VALUES each are 60.
        String facts = times("x=1 or ", 19) + "x=1";
        due("sixty", Texts.rule(new WalkingRooms(), "bar " + facts), 0);
        ruleFault("bar " + facts + "+2", 4 + facts.length() + 1, 3);
        ruleFault("bar " + facts + " or z", 4 + facts.length() + 4, 0);
        ruleFault("bar " + facts + ";bar 123456", 4 + facts.length() + 5, 1);
        ruleFault("bar " + facts + ";bar 1=1", 4 + facts.length() + 5, 3);
        String sixty = "1" + times("+1", 59);
        ruleFault("bar " + sixty + " <= 1", 4 + sixty.length() + 1, 3);
        String twelve = "bar x=1" + times(";bar x=1", 11);
        due("twelve CLAUSES", Texts.rule(new WalkingRooms(), twelve), 0);
        ruleFault(twelve + "; bar x=1", twelve.length() + 2, 4);
        ruleFault(twelve + ";baz", twelve.length() + 1, 0);
    }

    private static void p6() {
        WalkingRooms x = new WalkingRooms();
        Texts.rule(x, "bar kind=3");
        due("force(0) without a PALACE", x.force(0), -2);
        due("force(NONE) without a PALACE", x.force(NONE), -2);
        Texts.palace(x, HALLS);
        due("force(1)", x.force(1), -2);
        due("force(-2)", x.force(-2), -2);
        due("count(7)", x.count(7), NONE);
        due("force(0)", x.force(0), NONE);
        due("walk(3, 0, 0)", x.walk(3, 0, 0), -6);
        due("force(1)", x.force(1), -2);
        due("count(7)", x.count(7), 0);
        due("force(0)", x.force(0), 0);
        due("force(NONE)", x.force(NONE), 0);
        due("walk(3, 0, 0)", x.walk(3, 0, 0), 1);
    }

    private static void p7() {
        WalkingRooms x = new WalkingRooms();
        due("law(0) without a PALACE", x.law(0), -2);
        Texts.palace(x, HALLS);
        due("law(3)", x.law(3), -2);
        due("law(-1)", x.law(-1), -2);
        due("law(2)", x.law(2), 0);
        due("law(1)", x.law(1), 2);
        due("count(5)", x.count(5), 1);
        due("walk: more MISMATCHES", x.walk(3, 0, 0), -5);
        x.law(0);
        due("walk", x.walk(3, 0, 0), 1);
        due("mismatch(0)", x.mismatch(0), 2);
        x.law(1);
        due("walk: as many MISMATCHES", x.walk(3, 0, 0), 2);
        x.law(2);
        due("walk: still some", x.walk(3, 0, 0), -5);
        x.law(0);
        due("walk", x.walk(3, 0, 0), 3);
        x.law(2);
        due("walk: none behind it", x.walk(3, 0, 0), 4);
    }

    // ---- 8 to 15

    private static void p8() {
        WalkingRooms x = with("floor 3 2;room .d1w 2 1;room 2.34 0 0;key 4 1;key 2 1;key 3 0;person 1;person 0;person 1;fixed 1");
        int[][] rooms = {{6, 0, 0, 1, 3, 2, 0, 8, 2, NONE}, {0, 0, 4, 0, 5, 6, 1, 4 + 16, 5, NONE}};
        for (int room = 0; room < 2; room++) {
            for (int what = 0; what < 10; what++) {
                due("room(" + room + ", " + what + ")", x.room(room, what), rooms[room][what]);
            }
        }
        due("room(0, -1)", x.room(0, -1), NONE);
        due("room(-1, 0)", x.room(-1, 0), NONE);
        due("room(2, 0)", x.room(2, 0), NONE);
        due("walk", x.walk(3, 0, 0), 1);
        int[] turned = {6, 1, 2, 0, 1, 3};
        for (int what = 0; what < 6; what++) {
            due("turned room(0, " + what + ")", x.room(0, what), turned[what]);
        }
        x.walk(3, 0, 0);
        x.walk(3, 0, 0);
        due("turns", x.room(0, 1), 3);
        due("up", x.room(0, 2), 1);
        x.walk(3, 0, 0);
        due("turns", x.room(0, 1), 0);
    }

    private static void p9() {
        WalkingRooms x = with(HALLS);
        due("at(1, 0)", x.at(1, 0), 2);
        due("at(0, 1)", x.at(0, 1), 1);
        due("at(1, 1)", x.at(1, 1), NONE);
        due("at(2, 0)", x.at(2, 0), -2);
        due("at(0, 2)", x.at(0, 2), -2);
        due("at(-1, 0)", x.at(-1, 0), -2);
        due("at(0, -1)", x.at(0, -1), -2);
        due("at(4, 0)", x.at(4, 0), -2);
        due("without a PALACE", new WalkingRooms().at(0, 0), -2);
    }

    private static void p10() {
        WalkingRooms x = with(HALLS);
        due("sleeps(0)", x.sleeps(0), 0);
        due("sleeps(1)", x.sleeps(1), 2);
        due("sleeps(2)", x.sleeps(2), NONE);
        due("sleeps(-1)", x.sleeps(-1), NONE);
        due("without a PALACE", new WalkingRooms().sleeps(0), NONE);
    }

    private static void mismatches(String palace, int many, int x, int y, int side) {
        WalkingRooms rooms = with(palace);
        due(palace + " mismatch(0)", rooms.mismatch(0), many);
        due(palace + " mismatch(1)", rooms.mismatch(1), x);
        due(palace + " mismatch(2)", rooms.mismatch(2), y);
        due(palace + " mismatch(3)", rooms.mismatch(3), side);
        due(palace + " mismatch(4)", rooms.mismatch(4), NONE);
        due(palace + " mismatch(-1)", rooms.mismatch(-1), NONE);
    }

    private static void p11() {
        due("without a PALACE", new WalkingRooms().mismatch(0), NONE);
        mismatches("floor 4 4", 0, -2, -2, -2);
        mismatches("floor 1 1;room wwww 0 0", 0, -2, -2, -2);
        mismatches("floor 1 1;room 1d1d 0 0", 4, 0, 0, 0);
        mismatches("floor 2 1;room d... 0 0;room ...d 1 0", 2, 0, 0, 0);
        mismatches("floor 2 1;room .... 0 0;room ...d 1 0", 1, 0, 0, 1);
        mismatches("floor 2 1;room ...d 1 0", 1, 1, 0, 3);
        mismatches("floor 2 1;room ...w 1 0", 0, -2, -2, -2);
        mismatches("floor 2 1;room .w.. 0 0;room ...w 1 0", 0, -2, -2, -2);
        mismatches("floor 2 1;room .w.. 0 0;room .... 1 0", 1, 0, 0, 1);
        mismatches("floor 2 1;room .w.. 0 0;room ...2 1 0", 1, 0, 0, 1);
        mismatches("floor 2 1;room .1.. 0 0;room ...2 1 0", 0, -2, -2, -2);
        mismatches("floor 1 2;room .... 0 1;room ..d. 0 0", 1, 0, 0, 2);
        mismatches("floor 2 2;room d... 1 1;room .d.. 0 1", 2, 0, 1, 1);
        mismatches("floor 2 2;room d... 1 1;room .... 0 1", 1, 1, 1, 0);
        mismatches("floor 3 3;room dddd 1 1", 4, 1, 1, 0);
        WalkingRooms x = with("floor 2 1;room d... 0 0;room ...d 1 0");
        x.walk(3, 0, 0);
        due("turned door to door", x.mismatch(0), 0);
        x.walk(3, 0, 0);
        x.walk(3, 0, 0);
        due("turned away", x.mismatch(0), 2);
        due("FIRST", x.mismatch(3), 1);
    }

    private static void p12() {
        WalkingRooms x = with(HALLS);
        due("brick(0, 2, 1)", x.brick(0, 2, 1), -2);
        due("brick(0, 2, 6)", x.brick(0, 2, 6), 1);
        due("brick(0, 2, 0)", x.brick(0, 2, 0), 6);
        due("mismatch(0)", x.mismatch(0), 1);
        due("brick(0, 2, 2)", x.brick(0, 2, 2), 0);
        due("brick(0, 2, 1)", x.brick(0, 2, 1), 2);
        x.walk(3, 0, 0);
        due("refused: count(9)", x.brick(0, 3, 1), -2);
        due("count(9)", x.count(9), 1);
        due("brick(0, 3, 5), as it lies", x.brick(0, 3, 5), 1);
        due("room(0, 5)", x.room(0, 5), 5);
        due("count(9)", x.count(9), 0);
        due("count(8)", x.count(8), 1);
        due("undo()", x.undo(), -2);
        due("side 4", x.brick(0, 4, 1), -2);
        due("side -1", x.brick(0, -1, 1), -2);
        due("sort 7", x.brick(0, 0, 7), -2);
        due("sort -1", x.brick(0, 0, -1), -2);
        due("room 3", x.brick(3, 0, 1), -2);
        due("room -1", x.brick(-1, 0, 1), -2);
        due("without a PALACE", new WalkingRooms().brick(0, 0, 1), -2);
    }

    private static void p13() {
        WalkingRooms x = with(HALLS);
        x.rest();
        due("lay(1, 0)", x.lay(1, 0), -2);
        due("lay(2, NONE)", x.lay(2, NONE), -2);
        due("count(9)", x.count(9), 1);
        due("lay(1, 2)", x.lay(1, 2), 0);
        due("count(9)", x.count(9), 0);
        due("room(2, 7)", x.room(2, 7), 2);
        due("room(0, 7)", x.room(0, 7), 0);
        due("lay(4, 2)", x.lay(4, 2), NONE);
        due("room(2, 7)", x.room(2, 7), 18);
        due("lay(1, NONE)", x.lay(1, NONE), 2);
        due("room(2, 7)", x.room(2, 7), 16);
        due("lay(1, NONE)", x.lay(1, NONE), -2);
        due("key 0", x.lay(0, 0), -2);
        due("key 5", x.lay(5, 0), -2);
        due("room 3", x.lay(1, 3), -2);
        due("room -2", x.lay(1, -2), -2);
        due("without a PALACE", new WalkingRooms().lay(1, NONE), -2);
    }

    private static void p14() {
        WalkingRooms x = with(HALLS);
        x.rest();
        due("bed(0, 0)", x.bed(0, 0), -2);
        due("count(9)", x.count(9), 1);
        due("bed(0, 2)", x.bed(0, 2), 0);
        due("count(9)", x.count(9), 0);
        due("sleeps(0)", x.sleeps(0), 2);
        due("room(2, 8)", x.room(2, 8), 3);
        due("bed(2, 0)", x.bed(2, 0), -2);
        due("bed(-1, 0)", x.bed(-1, 0), -2);
        due("bed(0, 3)", x.bed(0, 3), -2);
        due("bed(0, -1)", x.bed(0, -1), -2);
        due("without a PALACE", new WalkingRooms().bed(0, 0), -2);
    }

    private static void p15() {
        WalkingRooms x = with(HALLS);
        x.rest();
        due("fix(0, false)", x.fix(0, false), false);
        due("count(9)", x.count(9), 1);
        due("fix(0, true)", x.fix(0, true), true);
        due("count(9)", x.count(9), 0);
        due("fix(0, true)", x.fix(0, true), false);
        due("room(0, 6)", x.room(0, 6), 1);
        due("walk", x.walk(3, 0, 0), -3);
        due("fix(0, false)", x.fix(0, false), true);
        due("walk", x.walk(3, 0, 0), 2);
        due("fix(3, true)", x.fix(3, true), false);
        due("fix(-1, true)", x.fix(-1, true), false);
        due("without a PALACE", new WalkingRooms().fix(0, true), false);
    }

    // ---- 16 to 20

    private static void p16() {
        due("without a PALACE", new WalkingRooms().walk(1, 0, 0), NONE);
        WalkingRooms x = with(HALLS);
        due("kind 0", x.walk(0, 0, 0), NONE);
        due("kind 4", x.walk(4, 0, 0), NONE);
        due("room 3", x.walk(3, 3, 0), NONE);
        due("room -1", x.walk(1, -1, 0), NONE);
        due("side 4", x.walk(1, 0, 4), NONE);
        due("side -1", x.walk(1, 0, -1), NONE);
        due("turn and 1", x.walk(3, 0, 1), NONE);
        due("other 3", x.walk(2, 0, 3), NONE);
        due("other itself", x.walk(2, 1, 1), NONE);
        due("other -1", x.walk(2, 1, -1), NONE);
        due("over the edge", x.walk(1, 0, 0), -4);
        due("onto a ROOM", x.walk(1, 0, 1), -4);
        due("no neighbours", x.walk(2, 2, 1), -4);
        due("slide", x.walk(1, 2, 2), 1);
        due("at(1, 1)", x.at(1, 1), 2);
        due("at(1, 0)", x.at(1, 0), NONE);
        due("change, the greater first", x.walk(2, 2, 1), 2);
        due("at(0, 1)", x.at(0, 1), 2);
        due("at(1, 1)", x.at(1, 1), 1);
        due("turn", x.walk(3, 1, 0), 3);
        due("turns", x.room(1, 1), 1);
        lawsInOrder();
        wordsOfRules();
        arithmeticOfRules();
    }

    private static void lawsInOrder() {
        WalkingRooms x = with("floor 3 1;room .d.. 0 0;room ...d 1 0;ways 1;fixed 0", "bar 1=1");
        x.law(2);
        due("1: not among the ways, nor can it be", x.walk(2, 0, 1), -3);
        due("1: TURNS are not", x.walk(3, 1, 0), -3);
        due("1: fixed, nor can it be", x.walk(1, 0, 0), -3);
        due("2: can't be", x.walk(1, 1, 0), -4);
        due("3: ahead of the RULE", x.walk(1, 1, 1), -5);
        x.law(0);
        due("4", x.walk(1, 1, 1), -6);
        due("nothing happened", x.count(8), 0);
        due("nothing happened", x.at(1, 0), 1);
        x.force(NONE);
        due("walk", x.walk(1, 1, 1), 1);
        x = with("floor 2 1;room .... 0 0;room .... 1 0;fixed 0");
        due("the other one is fixed", x.walk(2, 1, 0), -3);
    }

    /** A RULE, the WALK that it bars and one that it does not. */
    private static void barred(String test, int[] is, int[] isNot) {
        String palace = "floor 3 3;room .1w. 1 0;room .d.d 1 1;room .... 2 1;person 0;person 0;person 1";
        WalkingRooms x = with(palace, "bar " + test);
        x.force(NONE);
        x.rest();
        x.rest();
        x.rest();
        x.force(0);
        due("barred by " + test, x.walk(is[0], is[1], is[2]), -6);
        due("not barred by " + test, x.walk(isNot[0], isNot[1], isNot[2]), 4);
    }

    private static int[] walk(int kind, int room, int other) {
        return new int[] {kind, room, other};
    }

    private static void wordsOfRules() {
        int[] left = walk(1, 0, 3);
        int[] down = walk(1, 1, 2);
        int[] change = walk(2, 1, 0);
        int[] turn = walk(3, 1, 0);
        barred("kind=1", left, change);
        barred("kind=2", change, turn);
        barred("kind=3", turn, left);
        barred("room=0", left, down);
        // The lesser ROOM of a CHANGE leads, in whatever order the two are told.
        barred("room=0 and other=1", change, left);
        barred("other=99", turn, change);
        barred("x=1 and y=0", left, turn);
        barred("tox=0", left, change);
        barred("tox=1 and toy=1 and kind=2", change, down);
        barred("tox=x and toy=y", turn, left);
        barred("toy=2", down, turn);
        barred("doors=1", left, turn);
        barred("doors=2", turn, left);
        barred("locks=1", left, turn);
        barred("people=2", left, turn);
        barred("people=1", turn, change);
        barred("night=3 and kind=3", turn, left);
        // Now: the locked door of 0 meets EMPTY, the window the wall of 1; the left door of 1 meets EMPTY,
        // its right one the wall of 2.
        barred("faults=4 and kind=1", left, turn);
        // A TURN of 1 brings a door against the window, one against EMPTY: three. One of 2 changes nothing.
        barred("after=3 and kind=3", turn, walk(3, 2, 0));
        barred("after=4", walk(3, 2, 0), left);
        barred("after<faults", left, walk(3, 2, 0));
        barred("room=5;bar kind=2", change, turn);
        barred("kind=2;bar room=5", change, turn);
        barred("kind=2;bar room=5;bar room=6", change, turn);
    }

    private static void arithmeticOfRules() {
        String[] hold = {
            "2+3*4=14", "10-4-3=3", "7/2=3", "0-7/2=0-3", "x-7*1-7/2=0-10", "7%4=3", "1-8%5=0-2", "5/0=0", "5%0=0",
            "3<4", "3<=3", "4>3", "4>=4", "not 3=4", "not not 3=3", "1=2 or 1=1 and 2=2", "1=1 or 1=1 and 1=2",
            "not 1=2 and 1=1", "not[1=2 and 1=1]", "24/4/2=3", "2*7%4=2", "9-1>7", "0-1<0", "12345=12345",
            "99999*99999*99999*9300<0", "99999*99999>99999*60000", "1=1and 2=2", "0-1/0=0",
        };
        String[] not = {
            "3<3", "4<=3", "3>3", "3>=4", "3=4", "[1=2 or 1=1]and 2=1", "1=2 or 1=2 and 1=1", "not 1=1 or 1=2",
            "10-4-3=9", "0-7/2=0-4", "5/0>0",
        };
        for (String test : hold) {
            WalkingRooms x = with("floor 1 1;room .... 0 0", "bar " + test);
            due(test + " holds", x.can(), 0);
        }
        for (String test : not) {
            WalkingRooms x = with("floor 1 1;room .... 0 0", "bar " + test);
            due(test + " does not hold", x.can(), 1);
        }
    }

    private static void p17() {
        due("without a PALACE", new WalkingRooms().rest(), NONE);
        WalkingRooms x = with(HALLS);
        due("rest()", x.rest(), 1);
        due("rest()", x.rest(), 2);
        due("count(8)", x.count(8), 2);
        due("count(9)", x.count(9), 2);
        due("at(0, 0)", x.at(0, 0), 0);
    }

    private static void p18() {
        due("without a PALACE", new WalkingRooms().undo(), -2);
        WalkingRooms x = with(HALLS);
        due("undo()", x.undo(), -2);
        x.walk(1, 2, 2);
        x.walk(3, 2, 0);
        x.rest();
        x.walk(2, 1, 2);
        due("undo the change", x.undo(), 3);
        due("at(0, 1)", x.at(0, 1), 1);
        due("undo the rest", x.undo(), 2);
        due("turns", x.room(2, 1), 1);
        due("undo the turn", x.undo(), 1);
        due("turns", x.room(2, 1), 0);
        due("at(1, 1)", x.at(1, 1), 2);
        due("undo the slide", x.undo(), 0);
        due("at(1, 0)", x.at(1, 0), 2);
        due("undo()", x.undo(), -2);
        due("count(8)", x.count(8), 0);
        for (int k = 1; k <= 23; k++) {
            due("walk", x.walk(3, 0, 0), k);
            due("count(9)", x.count(9), Math.min(k, 20));
        }
        for (int k = 19; k >= 0; k--) {
            due("undo()", x.undo(), k);
        }
        due("undo()", x.undo(), -2);
        due("count(8)", x.count(8), 3);
        due("turns", x.room(0, 1), 3);
        x.walk(3, 0, 0);
        x.law(1);
        x.draft(0);
        x.almanac(3, 0, 0);
        due("count(9) is not touched by these", x.count(9), 1);
        x = with("floor 2 1;room dddd 0 0");
        for (int k = 1; k <= 21; k++) {
            due("to and fro", x.walk(1, 0, k % 2 == 1 ? 1 : 3), k);
        }
        for (int k = 19; k >= 0; k--) {
            due("undo()", x.undo(), k);
            due("where it was", x.room(0, 0), (k + 1) % 2);
            due("MISMATCHES of it alone", x.mismatch(0), 4);
        }
    }

    private static void p19() {
        due("without a PALACE", new WalkingRooms().can(), NONE);
        WalkingRooms x = with(HALLS);
        due("can()", x.can(), 7);
        x.law(2);
        due("can()", x.can(), 2);
        x.law(1);
        due("can()", x.can(), 2);
        due("nothing changed", x.mismatch(0), 0);
        x = with("floor 2 2;room .... 0 0;room .... 1 1;ways 4");
        due("TURNS", x.can(), 2);
        x = with("floor 2 2;room .... 0 0;room .... 1 1;ways 1");
        due("SLIDES", x.can(), 4);
        x = with("floor 2 1;room .... 0 0;room .... 1 0;ways 2");
        due("CHANGES", x.can(), 1);
        due("none", with("floor 2 2").can(), 0);
    }

    private static void p20() {
        due("without a PALACE", new WalkingRooms().choice(0, 0), NONE);
        WalkingRooms x = with(HALLS);
        int[][] all = {{1, 1, 1, 2}, {1, 2, 2, 0}, {2, 0, 1, 2}, {2, 0, 2, 2}, {3, 0, 0, 2}, {3, 1, 0, 2}, {3, 2, 0, 0}};
        for (int k = 0; k < all.length; k++) {
            for (int what = 0; what < 4; what++) {
                due("choice(" + k + ", " + what + ")", x.choice(k, what), all[k][what]);
            }
        }
        due("choice(7, 0)", x.choice(7, 0), NONE);
        due("choice(-1, 0)", x.choice(-1, 0), NONE);
        due("choice(0, 4)", x.choice(0, 4), NONE);
        due("choice(0, -1)", x.choice(0, -1), NONE);
        x = with("floor 3 3;room .... 1 1;room .... 0 0");
        int[][] slides = {{0, 0}, {0, 1}, {0, 2}, {0, 3}, {1, 1}, {1, 2}};
        for (int k = 0; k < slides.length; k++) {
            due("slide", x.choice(k, 0), 1);
            due("of the ROOM", x.choice(k, 1), slides[k][0]);
            due("over the SIDE", x.choice(k, 2), slides[k][1]);
        }
        due("then a TURN", x.choice(6, 0), 3);
    }

    // ---- 21 to 27

    private static void p21() {
        due("without a PALACE", new WalkingRooms().draft(0), NONE);
        WalkingRooms x = with(HALLS);
        due("draft(4)", x.draft(4), NONE);
        due("draft(-1)", x.draft(-1), NONE);
        due("draft(3)", x.draft(3), 0);
        due("count(16)", x.count(16), 8);
        x.walk(3, 0, 0);
        due("draft(0)", x.draft(0), 2);
        due("count(16)", x.count(16), 9);
        due("drafted(0, 0, 1)", x.drafted(0, 0, 1), 1);
        due("drafted(3, 0, 1)", x.drafted(3, 0, 1), 0);
        x.walk(3, 0, 0);
        due("again", x.draft(0), 2);
        due("drafted(0, 0, 1)", x.drafted(0, 0, 1), 2);
    }

    private static void p22() {
        due("without a PALACE", new WalkingRooms().redraw(0, 3, 0, 0), false);
        WalkingRooms x = with("floor 2 2;room .... 0 0;room .... 0 1;room .... 1 0;ways 4;fixed 0");
        due("without the DRAFT", x.redraw(1, 3, 0, 0), false);
        x.draft(1);
        due("draft 4", x.redraw(4, 3, 0, 0), false);
        due("draft -1", x.redraw(-1, 3, 0, 0), false);
        due("kind 0", x.redraw(1, 0, 0, 0), false);
        due("kind 4", x.redraw(1, 4, 0, 0), false);
        due("turn and 1", x.redraw(1, 3, 0, 1), false);
        due("room 3", x.redraw(1, 3, 3, 0), false);
        due("side 4", x.redraw(1, 1, 1, 4), false);
        due("itself", x.redraw(1, 2, 1, 1), false);
        due("over the edge", x.redraw(1, 1, 0, 0), false);
        due("onto a ROOM", x.redraw(1, 1, 0, 1), false);
        due("no neighbours", x.redraw(1, 2, 2, 1), true);
        due("drafted(1, 2, 0)", x.drafted(1, 2, 0), 4);
        due("drafted(1, 1, 0)", x.drafted(1, 1, 0), 1);
        due("EMPTY in it", x.redraw(1, 1, 1, 2), true);
        due("drafted(1, 1, 0)", x.drafted(1, 1, 0), 5);
        due("not EMPTY in it", x.redraw(1, 1, 2, 1), false);
        due("a fixed one", x.redraw(1, 1, 0, 1), true);
        due("drafted(1, 0, 0)", x.drafted(1, 0, 0), 1);
        due("turned", x.redraw(1, 3, 0, 0), true);
        due("drafted(1, 0, 1)", x.drafted(1, 0, 1), 1);
        due("the floor stays", x.at(0, 0), 0);
        due("the floor stays", x.room(0, 1), 0);
    }

    private static void p23() {
        due("without a PALACE", new WalkingRooms().drafted(0, 0, 0), NONE);
        WalkingRooms x = with(HALLS);
        due("without it", x.drafted(0, 0, 0), NONE);
        x.walk(3, 2, 0);
        x.draft(0);
        x.walk(1, 2, 2);
        due("drafted(0, 2, 0)", x.drafted(0, 2, 0), 1);
        due("drafted(0, 2, 1)", x.drafted(0, 2, 1), 1);
        due("drafted(0, 1, 0)", x.drafted(0, 1, 0), 4);
        due("drafted(0, 2, 2)", x.drafted(0, 2, 2), NONE);
        due("drafted(0, 2, -1)", x.drafted(0, 2, -1), NONE);
        due("drafted(0, 3, 0)", x.drafted(0, 3, 0), NONE);
        due("drafted(0, -1, 0)", x.drafted(0, -1, 0), NONE);
        due("drafted(4, 0, 0)", x.drafted(4, 0, 0), NONE);
        due("drafted(-1, 0, 0)", x.drafted(-1, 0, 0), NONE);
        Texts.palace(x, HALLS);
        due("behind a new PALACE", x.drafted(0, 0, 0), NONE);
    }

    private static void p24() {
        due("without a PALACE", new WalkingRooms().nights(0), NONE);
        WalkingRooms x = with(ROW);
        due("without it", x.nights(0), NONE);
        x.draft(0);
        due("nights(4)", x.nights(4), NONE);
        due("nights(-1)", x.nights(-1), NONE);
        due("as it is", x.nights(0), 0);
        x.walk(3, 1, 0);
        due("three TURNS on", x.nights(0), 3);
        x.fix(1, true);
        due("it can't be", x.nights(0), -2);
        x.fix(1, false);
        due("it can be again", x.nights(0), 3);
        x.walk(2, 0, 1);
        due("a CHANGE more", x.nights(0), 4);
        x.law(2);
        due("by the law", x.nights(0), -2);
        x.law(0);
        x.undo();
        due("undone", x.nights(0), 3);
        Texts.rule(x, "bar kind=3 and room=1");
        x.force(0);
        due("by the RULE", x.nights(0), -2);
        x.force(NONE);
        // In NIGHTS to a DRAFT night is as now, all along.
        Texts.rule(x, "bar night>1");
        x.force(1);
        due("night is as now", x.nights(0), 3);
        x.rest();
        due("night is as now", x.nights(0), -2);
        // faults are those of each SITUATION.
        x = with("floor 2 1;room ...d 1 0;room .d.. 0 0", "bar faults=1");
        x.draft(0);
        x.redraw(0, 3, 0, 0);
        x.redraw(0, 3, 0, 0);
        due("faults of then", x.nights(0), 2);
        x.law(1);
        due("no more than then", x.nights(0), -2);
        x = with("floor 2 1;room .d.. 1 0;room .d.. 0 0;ways 4", "bar faults=0 or room=1");
        x.draft(0);
        x.redraw(0, 3, 0, 0);
        x.redraw(0, 3, 0, 0);
        due("to where there are none", x.nights(0), 2);
        x.redraw(0, 3, 0, 0);
        due("but not on from there", x.nights(0), -2);
        x = with("floor 2 1;room .d.. 1 0;room .... 0 0;ways 4");
        x.draft(0);
        x.redraw(0, 3, 0, 0);
        x.redraw(0, 3, 0, 0);
        x.law(1);
        due("as many", x.nights(0), 2);
        x.brick(1, 1, 1);
        x.fix(1, true);
        due("no more, from two on to none", x.nights(0), 2);
        x.redraw(0, 3, 0, 0);
        due("never more again", x.nights(0), -2);
        x.draft(1);
        due("one DRAFT", x.nights(0), -2);
        due("and the other", x.nights(1), 0);
        due("and the one", x.nights(0), -2);
        nightsAtTheLimit();
    }

    /** Six ROOMS that only turn have 4096 SITUATIONS; they are told through here in the document's order. */
    private static void nightsAtTheLimit() {
        StringBuilder palace = new StringBuilder("floor 3 2;ways 4");
        for (int room = 0; room < 6; room++) {
            palace.append(";room .... ").append(room % 3).append(' ').append(room / 3);
        }
        List<String> order = new ArrayList<>();
        Map<String, Integer> depth = new HashMap<>();
        order.add("000000");
        depth.put("000000", 0);
        for (int k = 0; k < order.size() && order.size() < 1600; k++) {
            for (int room = 0; room < 6; room++) {
                char[] turns = order.get(k).toCharArray();
                turns[room] = (char) ('0' + (turns[room] - '0' + 1) % 4);
                String then = new String(turns);
                if (!depth.containsKey(then)) {
                    depth.put(then, depth.get(order.get(k)) + 1);
                    order.add(then);
                }
            }
        }
        for (int k : new int[] {1, 700, 1499, 1500, 1501, 1502}) {
            WalkingRooms x = with(palace.toString());
            x.draft(0);
            String wanted = order.get(k);
            for (int room = 0; room < 6; room++) {
                for (int turn = wanted.charAt(room) - '0'; turn > 0; turn--) {
                    x.redraw(0, 3, room, 0);
                }
            }
            due("the DRAFT that comes as number " + k, x.nights(0), k <= 1500 ? depth.get(wanted) : -3);
            due("its row", x.row(0, 0, 0), k <= 1500 ? 3 : -3);
        }
    }

    private static void p25() {
        due("without a PALACE", new WalkingRooms().row(0, 0, 0), NONE);
        WalkingRooms x = with("floor 2 2;room .... 0 0;room .... 1 0");
        due("without it", x.row(0, 0, 0), NONE);
        x.draft(0);
        due("none", x.row(0, 0, 0), -2);
        x.redraw(0, 1, 0, 2);
        x.redraw(0, 3, 1, 0);
        due("nights(0)", x.nights(0), 2);
        int[][] row = {{1, 0, 2}, {3, 1, 0}};
        for (int k = 0; k < 2; k++) {
            for (int what = 0; what < 3; what++) {
                due("row(0, " + k + ", " + what + ")", x.row(0, k, what), row[k][what]);
            }
        }
        due("row(0, 2, 0)", x.row(0, 2, 0), -2);
        due("row(0, -1, 0)", x.row(0, -1, 0), NONE);
        due("row(0, 0, 3)", x.row(0, 0, 3), NONE);
        due("row(0, 0, -1)", x.row(0, 0, -1), NONE);
        due("row(1, 0, 0)", x.row(1, 0, 0), NONE);
        due("row(4, 0, 0)", x.row(4, 0, 0), NONE);
        x.redraw(0, 2, 0, 1);
        // 0 is at (1, 0), 1 turned at (0, 1): from the CHANGE on the SLIDE comes ahead of the TURN.
        due("nights(0)", x.nights(0), 3);
        due("row(0, 0, 0)", x.row(0, 0, 0), 2);
        due("row(0, 0, 1)", x.row(0, 0, 1), 0);
        due("row(0, 0, 2)", x.row(0, 0, 2), 1);
        due("row(0, 1, 0)", x.row(0, 1, 0), 1);
        due("row(0, 1, 1)", x.row(0, 1, 1), 1);
        due("row(0, 1, 2)", x.row(0, 1, 2), 2);
        due("row(0, 2, 0)", x.row(0, 2, 0), 3);
        x.fix(1, true);
        due("it can't be", x.row(0, 0, 0), -2);
    }

    private static void p26() {
        due("without a PALACE", new WalkingRooms().marks(0), NONE);
        WalkingRooms x = with("floor 2 2;room .... 0 0;room .... 0 1;room .... 1 0;ways 1");
        due("without it", x.marks(0), NONE);
        x.draft(0);
        due("marks(4)", x.marks(4), NONE);
        due("as it is", x.marks(0), 0);
        x.redraw(0, 2, 0, 1);
        due("odd", x.marks(0), 8);
        x.redraw(0, 1, 2, 2);
        due("odd, the EMPTY CELL away", x.marks(0), 8);
        x.redraw(0, 2, 1, 2);
        due("even", x.marks(0), 0);
        x.redraw(0, 3, 2, 0);
        due("turned", x.marks(0), 2);
        x.fix(2, true);
        due("and fixed", x.marks(0), 3);
        x = with("floor 2 2;room .... 0 0;room .... 0 1;room .... 1 0;ways 4");
        x.draft(0);
        x.redraw(0, 2, 0, 1);
        due("elsewhere, and odd", x.marks(0), 12);
        x.redraw(0, 3, 0, 0);
        due("TURNS are among the ways", x.marks(0), 12);
        x = with("floor 2 2;room .... 0 0;room .... 0 1;ways 1");
        x.draft(0);
        x.redraw(0, 2, 0, 1);
        due("two CELLS are EMPTY", x.marks(0), 0);
        x = with("floor 2 2;room .... 0 0;room .... 0 1;room .... 1 0;ways 2");
        x.draft(0);
        x.redraw(0, 2, 0, 1);
        due("CHANGES are among the ways", x.marks(0), 0);
        x = with("floor 2 2;room .... 0 0;room .... 0 1;fixed 0");
        x.draft(0);
        x.redraw(0, 1, 1, 1);
        due("another one", x.marks(0), 0);
        x.redraw(0, 1, 0, 1);
        due("a fixed one lies otherwise", x.marks(0), 1);
        x.redraw(0, 1, 0, 3);
        x.redraw(0, 3, 0, 0);
        due("a fixed one is turned otherwise", x.marks(0), 1);
    }

    private static void p27() {
        due("without a PALACE", new WalkingRooms().floors(), NONE);
        due("no ROOMS", with("floor 4 4").floors(), 1);
        due("one CELL", with("floor 1 1;room .... 0 0").floors(), 4);
        due("one CELL, no TURNS", with("floor 1 1;room .... 0 0;ways 3").floors(), 1);
        due("a door to the edge", with("floor 1 1;room d... 0 0").floors(), 0);
        due("two and a door", with(HALLS).floors(), 64);
        due("fixed", with(HALLS + ";fixed 0").floors(), 8);
        due("all fixed", with("floor 2 1;room .d.. 0 0;room ...3 1 0;fixed 0;fixed 1").floors(), 1);
        due("all fixed, a MISMATCH", with("floor 2 1;room .d.. 0 0;room .... 1 0;fixed 0;fixed 1").floors(), 0);
        due("fixed, a door to the edge", with("floor 2 2;room d... 0 0;room .... 1 0;fixed 0").floors(), 0);
        due("a door to an EMPTY CELL", with("floor 2 1;room .d.. 0 0").floors(), 0);
        due("a window to the edge", with("floor 2 1;room wwww 0 0;ways 1").floors(), 2);
        due("a window to a wall", with("floor 2 1;room wwww 0 0;room .... 1 0;ways 1").floors(), 0);
        due("3360 TRIES behind 256", with("floor 4 4;room .... 0 0;room .... 1 0;room .... 2 0;ways 3").floors(), 3360);
        due("too many", with("floor 4 4;room .... 0 0;room .... 1 0;room .... 2 0;room .... 3 0;ways 3").floors(), -3);
        due("20000 TRIES", with("floor 3 3;room .... 1 0;room ..dd 0 1;room w.dd 0 2;room ..ww 2 0;room ddw. 1 2;fixed 4")
                .floors(), 0);
        due("20001 TRIES", with("floor 3 4;room ..w. 0 0;room www. 2 3;room .ww. 0 1;room ww.w 2 2;room ..ww 1 0;"
                + "room .... 1 1;ways 2;fixed 1").floors(), -3);
        WalkingRooms x = with("floor 2 1;room .d.. 0 0;room .d.. 1 0;ways 5");
        due("turned as one likes", x.floors(), 2);
        x = with("floor 2 1;room .d.. 0 0;room ...d 1 0;ways 3");
        due("as they are", x.floors(), 1);
    }

    // ---- 28 to 36

    private static void p28() {
        due("without a PALACE", new WalkingRooms().steps(0, 0), NONE);
        WalkingRooms x = with(ROW);
        due("steps(0, 0)", x.steps(0, 0), 0);
        due("steps(0, 1)", x.steps(0, 1), 1);
        due("both locks, with KEYS from the way", x.steps(0, 2), 2);
        due("no KEYS", x.steps(2, 0), -2);
        due("steps(3, 0)", x.steps(3, 0), NONE);
        due("steps(0, 3)", x.steps(0, 3), NONE);
        due("steps(-1, 0)", x.steps(-1, 0), NONE);
        x.lay(2, NONE);
        due("one lock of the two stays shut", x.steps(0, 2), -2);
        x.lay(2, 2);
        due("its KEY lies behind it", x.steps(0, 2), -2);
        x.lay(1, 2);
        due("KEYS where one begins", x.steps(2, 0), 2);
        // The way round by a KEY: 2 - 1 - 0 - 1 - 2 - 3.
        x = with("floor 4 1;room .d.. 0 0;room .d.d 1 0;room .3.d 2 0;room ...d 3 0;key 3 0");
        due("by way of the KEY", x.steps(2, 3), 5);
        due("steps(1, 3)", x.steps(1, 3), 4);
        x = with("floor 2 1;room .d.. 0 0;room .... 1 0");
        due("a door to a wall", x.steps(0, 1), -2);
        x = with("floor 2 1;room .w.. 0 0;room ...w 1 0");
        due("windows", x.steps(0, 1), -2);
    }

    private static void p29() {
        due("without a PALACE", new WalkingRooms().reach(0, 0), NONE);
        WalkingRooms x = with(ROW);
        due("reach(0, 0)", x.reach(0, 0), 7);
        due("reach(0, 1)", x.reach(0, 1), 6);
        due("reach(1, 0)", x.reach(1, 0), 7);
        due("reach(2, 0)", x.reach(2, 0), 4);
        due("reach(2, 1)", x.reach(2, 1), 0);
        x.lay(4, 2);
        due("reach(0, 1)", x.reach(0, 1), 22);
        x.lay(1, NONE);
        due("reach(0, 0)", x.reach(0, 0), 3);
        due("reach(0, 1)", x.reach(0, 1), 4);
        due("reach(0, 2)", x.reach(0, 2), NONE);
        due("reach(0, -1)", x.reach(0, -1), NONE);
        due("reach(3, 0)", x.reach(3, 0), NONE);
        due("reach(-1, 0)", x.reach(-1, 0), NONE);
    }

    private static void p30() {
        due("without a PALACE", new WalkingRooms().gossip(0, 0), NONE);
        WalkingRooms x = with("floor 4 2;room .dd. 0 0;room .d.d 1 0;room .1.d 2 0;room ...d 3 0;room d... 0 1;key 1 0");
        due("gossip(0, 0)", x.gossip(0, 0), 1);
        due("gossip(0, 1)", x.gossip(0, 1), 3);
        due("gossip(0, 2)", x.gossip(0, 2), 4);
        due("a locked door is none", x.gossip(0, 16), 4);
        due("gossip(3, 16)", x.gossip(3, 16), 1);
        due("gossip(4, 2)", x.gossip(4, 2), 3);
        due("gossip(0, 17)", x.gossip(0, 17), NONE);
        due("gossip(0, -1)", x.gossip(0, -1), NONE);
        due("gossip(5, 0)", x.gossip(5, 0), NONE);
        due("gossip(-1, 0)", x.gossip(-1, 0), NONE);
    }

    private static void p31() {
        WalkingRooms x = new WalkingRooms();
        due("almanac(NONE, ..) without a PALACE", x.almanac(NONE, 5, 5), 0);
        due("almanac(3, 0, 0) without a PALACE", x.almanac(3, 0, 0), -2);
        Texts.palace(x, HALLS);
        due("not asked whether it may be", x.almanac(1, 0, 0), 1);
        due("almanac(2, 1, 2)", x.almanac(2, 1, 2), 2);
        due("kind 0", x.almanac(0, 0, 0), -2);
        due("kind 4", x.almanac(4, 0, 0), -2);
        due("side 4", x.almanac(1, 0, 4), -2);
        due("itself", x.almanac(2, 0, 0), -2);
        due("turn and 1", x.almanac(3, 0, 1), -2);
        due("room 3", x.almanac(3, 3, 0), -2);
        for (int k = 3; k <= 10; k++) {
            due("almanac(3, 0, 0)", x.almanac(3, 0, 0), k);
        }
        due("an eleventh", x.almanac(3, 0, 0), -2);
        due("count(10)", x.count(10), 10);
        due("almanac(NONE, ..)", x.almanac(NONE, 0, 0), 0);
        due("count(10)", x.count(10), 0);
    }

    private static void p32() {
        due("without a PALACE", new WalkingRooms().would(0, 0, 0), NONE);
        WalkingRooms x = with(HALLS);
        x.almanac(1, 2, 2);
        x.almanac(1, 2, 2);
        x.almanac(2, 2, 1);
        x.almanac(3, 1, 0);
        int[][] cells = {{0, 4, 1}, {0, 4, 5}, {0, 4, 5}, {0, 5, 4}, {0, 5, 4}};
        for (int nights = 0; nights <= 4; nights++) {
            for (int room = 0; room < 3; room++) {
                due("would(" + room + ", " + nights + ", 0)", x.would(room, nights, 0), cells[nights][room]);
            }
            due("turns of 1", x.would(1, nights, 1), nights == 4 ? 1 : 0);
            due("left out", x.would(0, nights, 2), nights > 1 ? 1 : 0);
        }
        due("would(0, 5, 0)", x.would(0, 5, 0), NONE);
        due("would(0, -1, 0)", x.would(0, -1, 0), NONE);
        due("would(3, 0, 0)", x.would(3, 0, 0), NONE);
        due("would(-1, 0, 0)", x.would(-1, 0, 0), NONE);
        due("would(0, 0, 3)", x.would(0, 0, 3), NONE);
        due("would(0, 0, -1)", x.would(0, 0, -1), NONE);
        due("nothing changed", x.count(8), 0);
        due("nothing changed", x.at(1, 0), 2);
        // night is as it would be: only the second NIGHT's WALK is barred.
        x = with("floor 1 1;room .... 0 0", "bar night=1");
        x.almanac(3, 0, 0);
        x.almanac(3, 0, 0);
        x.almanac(3, 0, 0);
        due("turns", x.would(0, 3, 1), 2);
        due("left out", x.would(0, 3, 2), 1);
        x = with("floor 1 1;room d... 0 0;ways 4", "bar faults=2 or after=0");
        x.almanac(3, 0, 0);
        due("faults of then", x.would(0, 1, 1), 1);
        x = with("floor 2 1;room .d.. 1 0;room .d.. 0 0;ways 4", "bar faults=0");
        x.almanac(3, 0, 0);
        x.almanac(3, 0, 0);
        x.almanac(3, 0, 0);
        due("two MISMATCHES now", x.mismatch(0), 2);
        due("faults of then", x.would(0, 3, 1), 2);
        due("left out", x.would(0, 3, 2), 1);
    }

    private static void p33() {
        due("without a PALACE", new WalkingRooms().follow(), NONE);
        WalkingRooms x = with(HALLS, "bar night=2");
        due("an empty one", x.follow(), 0);
        due("count(8)", x.count(8), 0);
        x.almanac(1, 2, 2);
        x.almanac(1, 2, 2);
        x.almanac(3, 0, 0);
        x.almanac(3, 0, 0);
        due("follow()", x.follow(), 2);
        due("count(8)", x.count(8), 4);
        due("count(9)", x.count(9), 4);
        due("count(10)", x.count(10), 0);
        due("at(1, 1)", x.at(1, 1), 2);
        due("turns", x.room(0, 1), 1);
        due("undo()", x.undo(), 3);
        due("turns", x.room(0, 1), 0);
        due("undo()", x.undo(), 2);
        due("undo()", x.undo(), 1);
        due("at(1, 1)", x.at(1, 1), 2);
        due("undo()", x.undo(), 0);
        due("at(1, 1)", x.at(1, 1), NONE);
    }

    private static void p34() {
        WalkingRooms x = new WalkingRooms();
        due("wish(NONE, ..) without a PALACE", x.wish(NONE, 99, 9, 9), 0);
        due("wish(0, ..) without a PALACE", x.wish(0, 0, 0, 0), -2);
        Texts.palace(x, HALLS);
        due("wish", x.wish(0, 0, 0, 0), 1);
        due("wish", x.wish(1, 10, 1, 1), 2);
        due("person 2", x.wish(2, 0, 0, 0), -2);
        due("person -2", x.wish(-2, 0, 0, 0), -2);
        due("nights 11", x.wish(0, 11, 0, 0), -2);
        due("nights -1", x.wish(0, -1, 0, 0), -2);
        due("x 2", x.wish(0, 0, 2, 0), -2);
        due("y 2", x.wish(0, 0, 0, 2), -2);
        due("x -1", x.wish(0, 0, -1, 0), -2);
        for (int k = 3; k <= 12; k++) {
            due("wish", x.wish(0, 0, 0, 0), k);
        }
        due("a thirteenth", x.wish(0, 0, 0, 0), -2);
        due("count(11)", x.count(11), 12);
        due("wish(NONE, ..)", x.wish(NONE, 0, 0, 0), 0);
        due("count(11)", x.count(11), 0);
    }

    private static void p35() {
        due("without a PALACE", new WalkingRooms().beds(0), NONE);
        WalkingRooms x = with(HALLS);
        due("no WISHES", x.beds(0), 6);
        due("beds(1)", x.beds(1), 0);
        due("beds(2)", x.beds(2), 1);
        due("beds(3)", x.beds(3), -2);
        due("beds(7)", x.beds(7), NONE);
        due("beds(-1)", x.beds(-1), NONE);
        x.wish(1, 0, 0, 0);
        due("1 has ROOM 0", x.beds(0), 2);
        due("beds(1)", x.beds(1), 1);
        due("beds(2)", x.beds(2), 0);
        x.wish(0, 1, 1, 1);
        due("there is no such NIGHT", x.beds(0), 0);
        due("beds(1)", x.beds(1), -2);
        due("beds(2)", x.beds(2), -2);
        x.almanac(1, 2, 2);
        due("ROOM 2 is there then", x.beds(0), 1);
        due("beds(1)", x.beds(1), 2);
        x.almanac(1, 2, 1);
        x.wish(0, 2, 1, 1);
        due("left out, still there", x.beds(0), 1);
        x.wish(0, 2, 1, 0);
        due("an EMPTY CELL", x.beds(0), 0);
        x.wish(NONE, 0, 0, 0);
        x.wish(0, 3, 0, 0);
        due("there is a ROOM, but no such NIGHT", x.beds(0), 0);
        for (int k = 3; k <= 10; k++) {
            x.almanac(1, 2, k % 2 == 1 ? 0 : 2);
        }
        due("now there is", x.beds(0), 2);
        x.wish(0, 10, 0, 1);
        due("but not him", x.beds(0), 0);
        x.wish(NONE, 0, 0, 0);
        x.wish(1, 9, 1, 0);
        x.wish(1, 10, 1, 1);
        due("the last NIGHT", x.beds(0), 2);
        due("the last NIGHT", x.beds(2), 2);
        due("no PEOPLE", with("floor 1 1;room .... 0 0").beds(0), 1);
        due("no PEOPLE", with("floor 1 1;room .... 0 0").beds(1), -2);
        due("too many PEOPLE", with("floor 1 1;room .... 0 0;person 0;person 0").beds(0), 0);
        StringBuilder twelve = new StringBuilder("floor 4 4");
        for (int room = 0; room < 12; room++) {
            twelve.append(";room .... ").append(room % 4).append(' ').append(room / 4);
        }
        x = with(twelve + times(";person 0", 6));
        due("12 * 11 * 10 * 9 * 8 * 7", x.beds(0), 665280);
        due("beds(6)", x.beds(6), 5);
        due("almost", x.almost(3, 7), 55440);
        x.wish(5, 0, 0, 0);
        due("the first of the others", x.beds(1), 1);
    }

    private static void p36() {
        due("without a PALACE", new WalkingRooms().almost(0, 0), NONE);
        WalkingRooms x = with(HALLS);
        due("almost(0, 1)", x.almost(0, 1), 2);
        x.wish(1, 0, 1, 0);
        due("almost(1, 2)", x.almost(1, 2), 2);
        due("almost(1, 0)", x.almost(1, 0), 0);
        due("almost(0, 0)", x.almost(0, 0), 1);
        due("almost(0, 2)", x.almost(0, 2), 0);
        due("almost(2, 0)", x.almost(2, 0), NONE);
        due("almost(-1, 0)", x.almost(-1, 0), NONE);
        due("almost(0, 3)", x.almost(0, 3), NONE);
        due("almost(0, -1)", x.almost(0, -1), NONE);
    }

    // ---- 37 to 47

    private static void p37() {
        due("without a PALACE", new WalkingRooms().guards(0), NONE);
        WalkingRooms x = with("floor 4 1;room .d.. 3 0;room .d.d 0 0;room .d.d 1 0;room .1.d 2 0");
        // In a row: 1 - 2 - 3 - (0, whose left is a wall).
        due("guards(0)", x.guards(0), 1);
        due("guards(1)", x.guards(1), 4);
        x.brick(0, 3, 4);
        due("a path of four, locked ones too", x.guards(0), 2);
        // Sets of two that do: {1, 3} = 10, {2, 3} = 12, {0, 2} = 5.
        due("the least as bits", x.guards(1), 5);
        due("guards(2)", x.guards(2), NONE);
        due("guards(-1)", x.guards(-1), NONE);
        x = with("floor 2 2;room .w.. 0 0;room ...w 1 0;room d... 0 1");
        due("no two doors", x.guards(0), 0);
        due("no two doors", x.guards(1), 0);
        x = with("floor 2 2;room .dd. 0 0;room ..dd 1 0;room dd.. 0 1;room d..d 1 1");
        due("a ring of four", x.guards(0), 2);
        due("a ring of four", x.guards(1), 6);
        due("no ROOMS", with("floor 1 1").guards(1), 0);
    }

    private static void p38() {
        due("without a PALACE", new WalkingRooms().drift(0), NONE);
        WalkingRooms x = with("floor 4 4;room 1... 1 1;room .2.. 2 2;room ...3 3 1;room dddd 2 1;room .d.. 1 2");
        due("drift(0)", x.drift(0), 2);
        due("drift(1)", x.drift(1), 3);
        // Its right door meets the locked left one of 2; its left one meets the wall of 0.
        due("drift(2)", x.drift(2), 1);
        due("drift(3)", x.drift(3), NONE);
        due("drift(-1)", x.drift(-1), NONE);
        x.brick(0, 1, 4);
        due("another locked door, of the same ROOM", x.drift(0), 2);
        due("and it meets", x.drift(2), 2);
        due("the lower edge", with("floor 4 4;room 1... 1 3").drift(0), 0);
        due("the right edge", with("floor 4 4;room 1... 3 1").drift(0), 0);
        due("the upper edge", with("floor 4 4;room 1... 1 0").drift(0), 0);
        x = with("floor 3 3;room d1.. 1 1;room dd.. 0 0");
        due("of several the least", x.drift(1), 0);
        due("drift(0)", x.drift(0), 1);
        x = with("floor 2 2");
        due("drift(0)", x.drift(0), 0);
        due("without ROOMS", x.drift(1), -2);
        due("without ROOMS", x.drift(2), -2);
        x = with("floor 2 2;room .... 0 0");
        due("without doors", x.drift(1), 0);
        due("without doors", x.drift(2), 0);
    }

    private static void p39() {
        WalkingRooms x = new WalkingRooms();
        due("woke(NONE, ..) without a PALACE", x.woke(NONE, 9, 9), 0);
        due("woke(0, 0, 0) without a PALACE", x.woke(0, 0, 0), -2);
        Texts.palace(x, HALLS);
        due("woke(0, 1, 1)", x.woke(0, 1, 1), 1);
        due("room 3", x.woke(3, 0, 0), -2);
        due("room -2", x.woke(-2, 0, 0), -2);
        due("x 2", x.woke(0, 2, 0), -2);
        due("y 2", x.woke(0, 0, 2), -2);
        due("y -1", x.woke(0, 0, -1), -2);
        for (int k = 2; k <= 8; k++) {
            due("woke(1, 0, 0)", x.woke(1, 0, 0), k);
        }
        due("a ninth", x.woke(1, 0, 0), -2);
        due("count(12)", x.count(12), 8);
        due("woke(NONE, ..)", x.woke(NONE, 0, 0), 0);
        due("count(12)", x.count(12), 0);
    }

    private static void p40() {
        due("without a PALACE", new WalkingRooms().how(0, 0), NONE);
        WalkingRooms x = with(HALLS);
        due("none told", x.how(0, 0), 1);
        due("none told", x.how(1, 0), 7);
        due("SLIDES", x.how(1, 1), 2);
        due("CHANGES", x.how(1, 2), 2);
        due("TURNS", x.how(1, 3), 3);
        due("the first", x.how(1, 4), 0);
        due("no second", x.how(1, 5), -2);
        x.woke(2, 1, 1);
        due("not now", x.how(0, 0), 0);
        due("how(0, 4)", x.how(0, 4), -2);
        due("by one", x.how(1, 0), 1);
        due("by one", x.how(1, 1), 1);
        due("by one", x.how(1, 4), 1);
        // By two: a CHANGE or a TURN and the SLIDE, in either order, as far as 2 is there in the end.
        due("by two, SLIDES of 2 itself", x.how(2, 1) > 0, true);
        x.woke(0, 0, 1);
        x.woke(1, 0, 0);
        due("by two", x.how(2, 0), 2);
        due("by two", x.how(2, 1), 2);
        due("by two", x.how(2, 2), 2);
        due("by two", x.how(2, 3), 0);
        // The SLIDE of 2 is second among seven; then the CHANGE of 0 and 1 comes behind one SLIDE.
        due("the first", x.how(2, 4), 1);
        due("the second", x.how(2, 5), 2);
        due("no third", x.how(2, 6), -2);
        due("by three", x.how(3, 3), 18);
        due("how(4, 0)", x.how(4, 0), NONE);
        due("how(-1, 0)", x.how(-1, 0), NONE);
        due("how(0, 7)", x.how(0, 7), NONE);
        due("how(0, -1)", x.how(0, -1), NONE);
        x.woke(0, 1, 0);
        due("two CELLS for one ROOM", x.how(3, 0), 0);
        due("there is none", x.how(3, 4), -2);
        x = with("floor 1 1;room .... 0 0", "bar night>0");
        due("night is as now", x.how(3, 0), 1);
        due("the third", x.how(3, 6), 0);
        x.force(NONE);
        x.rest();
        x.force(0);
        due("night is as now", x.how(1, 0), 0);
        // Two MISMATCHES now, none behind one TURN: from there on no WALK may be.
        x = with("floor 2 1;room .d.. 1 0;room .d.. 0 0;ways 4", "bar faults=0 or room=1");
        due("faults of then", x.how(1, 0), 1);
        due("faults of then", x.how(2, 0), 1);
        due("faults of then", x.how(3, 0), 0);
    }

    private static void p41() {
        due("without a PALACE", new WalkingRooms().built(0, 0, 0), NONE);
        WalkingRooms x = with("floor 3 3;room ..d. 1 0;room ...w 2 1;room .1.. 0 1;room d... 2 0");
        // Around (1, 1): a door above, a window to the right, EMPTY below, a locked door to the left.
        due("ahead", x.mismatch(0), 3);
        int[] built = {1, 1, 2, 0, 1};
        for (int what = 0; what < 5; what++) {
            due("built(1, 1, " + what + ")", x.built(1, 1, what), built[what]);
        }
        int[] corner = {3, 0, 0, 0, 0};
        for (int what = 0; what < 5; what++) {
            due("built(0, 2, " + what + ")", x.built(0, 2, what), corner[what]);
        }
        due("built(1, 1, 5)", x.built(1, 1, 5), NONE);
        due("built(1, 1, -1)", x.built(1, 1, -1), NONE);
        due("not EMPTY", x.built(1, 0, 0), NONE);
        due("not of the floor", x.built(3, 0, 0), NONE);
        due("not of the floor", x.built(0, -1, 0), NONE);
        due("nothing changed", x.count(2), 4);
    }

    private static void p42() {
        due("without a PALACE", new WalkingRooms().best(), NONE);
        due("none is EMPTY", with(ROW).best(), -2);
        due("of several the first", with("floor 3 3;room .... 0 0").best(), 1);
        WalkingRooms x = with("floor 3 3;room ..d. 1 0;room ...w 2 1;room .1.. 0 1;room d... 2 0");
        due("best()", x.best(), 5);
        due("no ROOMS", with("floor 2 2").best(), 0);
        due("the lower one", with("floor 1 3;room ..d. 0 1").best(), 8);
    }

    private static void p43() {
        WalkingRooms x = new WalkingRooms();
        due("seed(5)", x.seed(5), 0);
        due("seed(-1)", x.seed(-1), NONE);
        due("count(13)", x.count(13), 5);
        due("seed(2147483647)", x.seed(2147483647), 5);
        due("seed(0)", x.seed(0), 2147483647);
    }

    private static void p44() {
        due("without a PALACE", new WalkingRooms().drawn(1, 1, 0, 1, 0), NONE);
        WalkingRooms x = with(HALLS);
        x.seed(1);
        // x becomes 1103527590, a DRAW of 16838, mod 7 the WALK 3: the CHANGE of 0 and 2.
        due("drawn(1, 1, 0, 1, 0)", x.drawn(1, 1, 0, 1, 0), 2);
        due("drawn(1, 1, 0, 1, 1)", x.drawn(1, 1, 0, 1, 1), 0);
        due("drawn(1, 1, 0, 1, 2)", x.drawn(1, 1, 0, 1, 2), 1);
        due("x is as it was", x.count(13), 1);
        // x goes on: 2524885223 of 2147483648 the rest is 377401575, a DRAW of 5758, mod 7 the WALK 4.
        due("twice", x.drawn(2, 1, 0, 1, 0), 4);
        due("twice", x.drawn(2, 1, 0, 1, 2), 2);
        due("nothing changed", x.at(0, 0), 0);
        due("m 0", x.drawn(0, 1, 0, 1, 0), NONE);
        due("m 11", x.drawn(11, 1, 0, 1, 0), NONE);
        due("n 0", x.drawn(1, 0, 0, 1, 0), NONE);
        due("n 61", x.drawn(1, 61, 0, 1, 0), NONE);
        due("the same ROOM", x.drawn(1, 1, 1, 1, 0), NONE);
        due("one 3", x.drawn(1, 1, 3, 1, 0), NONE);
        due("other -1", x.drawn(1, 1, 0, -1, 0), NONE);
        due("what 3", x.drawn(1, 1, 0, 1, 3), NONE);
        due("what -1", x.drawn(1, 1, 0, 1, -1), NONE);
        due("m 10, n 60", x.drawn(10, 60, 0, 1, 2), 600);
        x.fix(0, true);
        x.fix(1, true);
        x.fix(2, true);
        due("none may be", x.drawn(10, 60, 0, 1, 2), 0);
        due("door to door each time", x.drawn(10, 60, 1, 0, 1), 10);
        due("not these", x.drawn(10, 60, 1, 2, 1), 0);
        // night is as it would be; a NIGHT without a WALK is one, too.
        x = with("floor 2 1;room .... 0 0;room .... 1 0", "bar night=1 or night=3");
        due("night", x.drawn(1, 5, 0, 1, 2), 3);
        due("night, anew each time", x.drawn(2, 5, 0, 1, 2), 6);
        x = with("floor 2 1;room .1.. 0 0;room ...2 1 0;fixed 0;fixed 1");
        due("locked doors are doors", x.drawn(1, 1, 0, 1, 1), 1);
    }

    private static void p45() {
        WalkingRooms x = with("floor 4 2;room .... 0 0;room .... 1 0;person 1;person 1;person 0;ways 6", "bar x=9");
        x.law(1);
        x.rest();
        x.rest();
        x.almanac(3, 0, 0);
        x.wish(0, 0, 0, 0);
        x.wish(1, 0, 0, 0);
        x.woke(0, 0, 0);
        x.woke(0, 0, 0);
        x.woke(1, 0, 0);
        x.seed(99);
        x.draft(0);
        x.draft(3);
        x.feed(0, 0, 0, 0, 0);
        int[] counts = {4, 2, 2, 3, 6, 1, 1, 0, 2, 2, 1, 2, 3, 99, 20, 6, 9};
        for (int what = 0; what < counts.length; what++) {
            due("count(" + what + ")", x.count(what), counts[what]);
        }
        due("count(17)", x.count(17), NONE);
        due("count(-1)", x.count(-1), NONE);
        x.force(NONE);
        due("count(7)", x.count(7), NONE);
        due("count(7) without a PALACE", new WalkingRooms().count(7), NONE);
    }

    private static void p46() {
        WalkingRooms x = new WalkingRooms();
        due("image(0) without a PALACE", x.image(0), 0);
        due("image(4)", x.image(4), NONE);
        due("image(-1)", x.image(-1), NONE);
        Texts.palace(x, HALLS);
        x.rest();
        x.rest();
        due("image(3)", x.image(3), 2);
        x.rest();
        due("image(0)", x.image(0), 3);
        due("back(3)", x.back(3), 2);
        due("back(0)", x.back(0), 3);
        x.undo();
        due("made anew", x.image(0), 2);
        x.rest();
        due("back(0)", x.back(0), 2);
    }

    private static void p47() {
        WalkingRooms x = new WalkingRooms();
        due("never made", x.back(0), NONE);
        due("back(4)", x.back(4), NONE);
        due("back(-1)", x.back(-1), NONE);
        x.image(1);
        Texts.palace(x, HALLS);
        Texts.rule(x, "bar x=9");
        x.force(0);
        x.law(1);
        x.seed(5);
        x.walk(1, 2, 2);
        x.draft(2);
        x.almanac(3, 0, 0);
        x.wish(0, 0, 0, 0);
        x.woke(0, 0, 0);
        x.image(0);
        x.law(0);
        x.force(NONE);
        x.seed(6);
        x.almanac(3, 0, 0);
        x.wish(0, 0, 0, 0);
        x.woke(0, 0, 0);
        x.draft(3);
        x.redraw(2, 3, 0, 0);
        x.walk(3, 0, 0);
        x.brick(1, 0, 2);
        x.lay(1, NONE);
        x.bed(0, 1);
        x.fix(0, true);
        Texts.rule(x, "bar x=8");
        Texts.palace(x, "floor 1 1;room .... 0 0");
        Texts.onTape(x, "abc");
        due("back(0)", x.back(0), 1);
        int[] counts = {2, 2, 3, 2, 7, 1, 2, 0, 1, 1, 1, 1, 1, 5, 3, 1, 4};
        for (int what = 0; what < counts.length; what++) {
            due("count(" + what + ")", x.count(what), counts[what]);
        }
        due("at(1, 1)", x.at(1, 1), 2);
        due("turns", x.room(0, 1), 0);
        due("side", x.room(1, 2), 1);
        due("key", x.room(0, 7), 2);
        due("sleeps(0)", x.sleeps(0), 0);
        due("sleeps(1)", x.sleeps(1), 2);
        due("fixed", x.room(0, 6), 0);
        due("drafted(2, 0, 1)", x.drafted(2, 0, 1), 0);
        due("drafted(2, 2, 0)", x.drafted(2, 2, 0), 5);
        due("would(0, 1, 1)", x.would(0, 1, 1), 0);
        due("undo()", x.undo(), 0);
        due("at(1, 0)", x.at(1, 0), 2);
        due("the IMAGE stays", x.back(0), 1);
        due("at(1, 1)", x.at(1, 1), 2);
        due("back to no PALACE", x.back(1), 0);
        due("can()", x.can(), NONE);
        due("count(2)", x.count(2), 0);
        due("count(13)", x.count(13), 0);
        due("count(6)", x.count(6), 2);
        due("back(0)", x.back(0), 1);
        due("can() > 0", x.can() > 0, true);
        x = with("floor 2 1;room d... 0 0;person 0");
        x.walk(3, 0, 0);
        x.draft(0);
        x.walk(3, 0, 0);
        x.walk(3, 0, 0);
        x.image(2);
        Texts.palace(x, "floor 2 2;room .... 0 0");
        x.walk(1, 0, 1);
        x.walk(1, 0, 2);
        x.back(2);
        due("turns", x.room(0, 1), 3);
        due("turns of the DRAFT", x.drafted(0, 0, 1), 1);
        due("undo()", x.undo(), 2);
        due("turns", x.room(0, 1), 2);
        due("undo()", x.undo(), 1);
        due("turns", x.room(0, 1), 1);
        due("cell", x.room(0, 0), 0);
    }

    /** What a dear question found out must not outlive what it was found out by. */
    private static void askedAgain() {
        WalkingRooms x = with("floor 2 1;room .... 0 0;person 0");
        x.draft(0);
        x.redraw(0, 1, 0, 1);
        x.woke(0, 1, 0);
        due("nights(0)", x.nights(0), 1);
        due("how(1, 0)", x.how(1, 0), 1);
        Texts.rule(x, "bar kind=1 and [people=1 or doors=1]");
        x.force(0);
        due("behind force", x.nights(0), -2);
        due("behind force", x.how(1, 0), 0);
        x.force(NONE);
        due("behind force", x.nights(0), 1);
        x.law(1);
        x.brick(0, 0, 1);
        due("behind brick", x.nights(0), 1);
        x.law(2);
        due("behind law", x.nights(0), -2);
        x.law(0);
        x.walk(1, 0, 1);
        due("behind walk", x.nights(0), 0);
        due("behind walk", x.how(0, 0), 1);
        x.undo();
        due("behind undo", x.nights(0), 1);
        due("behind undo", x.how(0, 0), 0);
        x.fix(0, true);
        due("behind fix", x.nights(0), -2);
        due("behind fix", x.how(1, 0), 0);
        x.fix(0, false);
        x.image(0);
        x.almanac(1, 0, 1);
        x.follow();
        due("behind follow", x.nights(0), 0);
        x.back(0);
        due("behind back", x.nights(0), 1);
        x.redraw(0, 1, 0, 3);
        due("behind redraw", x.nights(0), 0);
        x.woke(NONE, 0, 0);
        due("behind woke", x.how(1, 0), 2);
        x.woke(0, 0, 0);
        due("behind woke", x.how(1, 0), 1);
        x.draft(1);
        due("another DRAFT", x.nights(1), 0);
        x.redraw(1, 3, 0, 0);
        due("behind redraw", x.nights(1), 1);
        x.draft(1);
        due("behind draft", x.nights(1), 0);
        x.woke(NONE, 0, 0);
        due("behind woke", x.how(1, 0), 2);
        x.woke(0, 1, 0);
        due("behind woke", x.how(1, 0), 1);
        x.woke(NONE, 0, 0);
        due("behind woke", x.how(1, 0), 2);
        due("palace", Texts.palace(x, "floor 1 1;room .... 0 0"), 1);
        due("behind palace", x.how(1, 0), 1);
        due("behind a wrong palace", Texts.palace(x, "floor"), -43);
        due("behind a wrong palace", x.how(1, 0), 1);
        due("another length", x.how(0, 0), 1);
        due("another length", x.how(1, 3), 1);
    }

    public static void main(String[] args) {
        Runnable[] all = {PromisesTest::p1, PromisesTest::p2, PromisesTest::p3, PromisesTest::p4, PromisesTest::p5,
            PromisesTest::p6, PromisesTest::p7, PromisesTest::p8, PromisesTest::p9, PromisesTest::p10,
            PromisesTest::p11, PromisesTest::p12, PromisesTest::p13, PromisesTest::p14, PromisesTest::p15,
            PromisesTest::p16, PromisesTest::p17, PromisesTest::p18, PromisesTest::p19, PromisesTest::p20,
            PromisesTest::p21, PromisesTest::p22, PromisesTest::p23, PromisesTest::p24, PromisesTest::p25,
            PromisesTest::p26, PromisesTest::p27, PromisesTest::p28, PromisesTest::p29, PromisesTest::p30,
            PromisesTest::p31, PromisesTest::p32, PromisesTest::p33, PromisesTest::p34, PromisesTest::p35,
            PromisesTest::p36, PromisesTest::p37, PromisesTest::p38, PromisesTest::p39, PromisesTest::p40,
            PromisesTest::p41, PromisesTest::p42, PromisesTest::p43, PromisesTest::p44, PromisesTest::p45,
            PromisesTest::p46, PromisesTest::p47};
        for (Runnable test : all) {
            promise++;
            test.run();
        }
        promise++;
        askedAgain();
        System.out.println(asked + " answers asked for, " + wrong + " not as due");
        if (wrong > 0) {
            System.exit(1);
        }
    }
}

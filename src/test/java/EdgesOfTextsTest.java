/** The sentences of the document's first part (texts and their FAULTS) that name a boundary case. */
public final class EdgesOfTextsTest {
    private static final int NONE = WalkingRooms.NONE;
    private static final String SIGNS = ".dw1234";
    private static final String[] WORDS = {"kind", "room", "other", "x", "y", "tox", "toy", "doors", "locks", "people",
        "night", "faults", "after"};

    private static int fault(int place, int code) {
        return -2 - (1 + 8 * place + code);
    }

    /** The text with so many blanks in place of its ~ that it has so many bytes. */
    private static String filled(String text, int bytes) {
        return text.replace("~", " ".repeat(bytes - text.length() + 1));
    }

    private static void palace(String text, int want) {
        Due.is("palace " + text, Texts.palace(new WalkingRooms(), text), want);
    }

    private static void palaceFault(String text, int place, int code) {
        palace(text, fault(place, code));
    }

    /** The FAULT is at the byte behind the first part of the text. */
    private static void palaceFault(String text, String rest, int code) {
        palaceFault(text + rest, text.length(), code);
    }

    private static void rule(String text, int want) {
        Due.is("rule " + text, Texts.rule(new WalkingRooms(), text), want);
    }

    private static void ruleFault(String text, String rest, int code) {
        rule(text + rest, fault(text.length(), code));
    }

    private static WalkingRooms with(String palace) {
        WalkingRooms x = new WalkingRooms();
        Due.is("palace " + palace, Texts.palace(x, palace) >= 0, true);
        return x;
    }

    // ---- a PALACE

    private static void bytes() {
        Due.says("A PALACE is a text of at most 400 bytes");
        for (int bytes : new int[] {399, 400}) {
            WalkingRooms x = with(filled("floor 4 4;room~.... 3 3", bytes));
            Due.is("the last byte of " + bytes, x.room(0, 0), 15);
            x = with(filled("floor 4 4~;room .... 3 3;ways 6", bytes));
            Due.is("the last byte of " + bytes, x.count(4), 6);
            palaceFault(filled("floor 4 4~;", bytes), bytes, 0);
            palaceFault(filled("floor 4 4~x", bytes), bytes - 1, 0);
            palaceFault(filled("floor 4 4~;ways 9", bytes), bytes - 1, 1);
        }
        Due.says("RULES: texts likewise");
        for (int bytes : new int[] {399, 400}) {
            rule(filled("bar~x=1", bytes), 0);
            rule(filled("bar~x=", bytes), fault(bytes, 0));
            rule(filled("bar x=1~y", bytes), fault(bytes - 1, 0));
        }
        String packed = "bar 99999<99999" + " or 99999<99999".repeat(19);
        rule(filled(packed + "~", 400), 0);
    }

    private static void clauses() {
        Due.says("CLAUSE { ; CLAUSE }, 40 at most");
        String two = "floor 4 4;room .... 0 0";
        String most = two + ";fixed 0".repeat(37);
        Due.is("the 40th CLAUSE", with(most + ";ways 3").count(4), 3);
        Due.is("the 40th CLAUSE", with(most + ";room .... 1 0").count(2), 2);
        Due.is("the 40th CLAUSE", with(most + ";key 4 0").room(0, 7), 16);
        Due.is("the 40th CLAUSE", with(most + ";person 0").count(3), 1);
        Due.says("4 one CLAUSE too many (at its first byte)");
        for (String clause : new String[] {"floor 1 1", "room .... 1 1", "fixed 0", "key 1 0", "person 0", "ways 1"}) {
            palaceFault(most + ";fixed 0;", clause, 4);
            palaceFault(most + ";fixed 0;  ", clause, 4);
            palaceFault(most + ";fixed 0;", clause.substring(0, clause.indexOf(' ')), 4);
        }
        Due.says("Of one place the least");
        palaceFault(most + ";fixed 0;", "fixe 0", 0);
        palaceFault(most + ";fixed 0;", "", 0);
        palaceFault(most + ";fixed 0;", ";", 0);
        Due.says("FAULTS, the first along the text");
        palaceFault(most + ";fixed ", "1;fixed 0", 1);
        palaceFault("floor 4 4;ways ", "8;ways 8;floor", 1);
        palaceFault("floor ", "0 0", 1);
    }

    private static void floors() {
        Due.says("floor NUMBER NUMBER (columns, rows, 1 to 4 each)");
        for (int columns = 1; columns <= 4; columns++) {
            for (int rows = 1; rows <= 4; rows++) {
                WalkingRooms x = with("floor " + columns + " " + rows);
                Due.is("columns", x.count(0), columns);
                Due.is("rows", x.count(1), rows);
                Due.is("EMPTY CELLS", x.count(15), columns * rows);
                cells(x, columns, rows);
                roomsOn(columns, rows);
            }
        }
        for (String wrong : new String[] {"0", "5", "9", "10", "00000", "99999", "000001", "4294967297", "11"}) {
            palaceFault("floor ", wrong + " 1", 1);
            palaceFault("floor 1 ", wrong, 1);
        }
        Due.says("NUMBER (1 to 5 digits)");
        palace("floor 00004 00003", 0);
        palaceFault("floor 00004 ", "000003", 1);
        Due.says("once, the first CLAUSE");
        for (String clause : new String[] {"room .... 0 0", "fixed 0", "key 1 0", "person 0", "ways 7", "room"}) {
            palaceFault("", clause + ";floor 1 1", 4);
            palaceFault("   ", clause, 4);
        }
        palaceFault("floor 2 2;", "floor 2 2", 4);
        palaceFault("floor 2 2;room .... 0 0;ways 7;", "floor", 4);
        Due.says("0 a WORD that can't stand there");
        palaceFault("floor 2 2;", "bar", 0);
        palaceFault("", "bar 1=1", 0);
        palaceFault("floor 2 2;", "roo .... 0 0", 0);
    }

    private static void cells(WalkingRooms x, int columns, int rows) {
        for (int cx = -1; cx <= 4; cx++) {
            for (int cy = -1; cy <= 4; cy++) {
                boolean is = cx >= 0 && cx < columns && cy >= 0 && cy < rows;
                Due.is(columns + " " + rows + ": at(" + cx + ", " + cy + ")", x.at(cx, cy), is ? NONE : -2);
            }
        }
    }

    private static void roomsOn(int columns, int rows) {
        String floor = "floor " + columns + " " + rows + ";room .... ";
        for (int x = 0; x < 4; x++) {
            for (int y = 0; y < 4; y++) {
                if (x < columns && y < rows) {
                    Due.is("its CELL", with(floor + x + " " + y).room(0, 0), 4 * y + x);
                } else {
                    palaceFault(floor, x + " " + y, 5);
                    palaceFault(floor, x + " " + y + " ]", 5);
                }
            }
        }
    }

    private static void signs() {
        Due.says("its four SIDES, up, right, down, left, no blanks between");
        for (int place = 0; place < 4; place++) {
            for (int sort = 0; sort < 7; sort++) {
                char[] sides = "....".toCharArray();
                sides[place] = SIGNS.charAt(sort);
                WalkingRooms x = with("floor 1 1;room " + new String(sides) + " 0 0");
                for (int side = 0; side < 4; side++) {
                    Due.is("SIDE " + side, x.room(0, 2 + side), side == place ? sort : 0);
                }
            }
            for (int sign = 0; sign < 256; sign++) {
                if (SIGNS.indexOf(sign) < 0 && (place > 0 || sign != ' ')) {
                    String ahead = "floor 1 1;room " + "....".substring(0, place);
                    palaceFault(ahead, (char) sign + "....".substring(place + 1) + " 0 0", 0);
                }
            }
        }
        Due.is("SIGNS and NUMBERS", with("floor 3 4;room12342 3").room(0, 0), 14);
        Due.says("a SIGN of a ROOM less than four, too");
        for (int many = 0; many < 4; many++) {
            String ahead = "floor 1 1;room " + "dddd".substring(0, many);
            palaceFault(ahead, "", 0);
            palaceFault(ahead, ";", 0);
            if (many > 0) {
                palaceFault(ahead, " 0 0", 0);
            }
        }
        Due.says("0 a byte that can't stand there");
        palaceFault("floor 1 1;room dddd", "d 0 0", 0);
        palaceFault("floor 1 1;room dddd", "w0 0", 0);
        palaceFault("floor 1 1;", "roomdddd 0 0", 0);
    }

    private static void places() {
        Due.says("x, y: a CELL of the floor that is EMPTY");
        String one = "floor 2 3;room .... 1 2;room .... ";
        palaceFault(one, "1 2", 5);
        palaceFault(one, "1 2;room .... 0 0", 5);
        Due.is("another one", with(one + "1 1").count(2), 2);
        Due.says("5 (at its x, as soon as y is told)");
        palaceFault(one, "2 0", 5);
        palaceFault(one, "0 3", 5);
        palaceFault(one, "00002   0)", 5);
        palaceFault(one, "3 3x", 5);
        palaceFault(one + "2", "", 0);
        palaceFault(one + "2 ", ";", 0);
        palaceFault(one + "2 ", "4", 1);
        palaceFault(one + "1 ", "000002", 1);
        palaceFault(one + "1 ", "-1", 0);
        Due.says("1 not as told (x, y: 0 to 3)");
        palaceFault(one, "4 0", 1);
        palaceFault(one, "4 9", 1);
        palaceFault(one, "99999 0", 1);
        palaceFault(one + "0 ", "4", 1);
        palaceFault(one + "0 ", "99999", 1);
        Due.says("4 a 13th ROOM");
        StringBuilder twelve = new StringBuilder("floor 4 4");
        for (int room = 0; room < 12; room++) {
            twelve.append(";room .... ").append(room % 4).append(' ').append(3 - room / 4);
        }
        WalkingRooms x = with(twelve.toString());
        Due.is("ROOMS", x.count(2), 12);
        Due.is("ROOM 11", x.room(11, 0), 7);
        Due.is("ROOM 12", x.room(12, 0), NONE);
        palaceFault(twelve + "; ", "room .... 0 0", 4);
        palaceFault(twelve + ";", "room", 4);
        palaceFault(twelve + ";fixed ", "12", 1);
        Due.is("the 12th is fixed", with(twelve + ";fixed 11").room(11, 6), 1);
    }

    private static void told() {
        String two = "floor 2 2;room .... 0 0;room .... 1 0";
        Due.says("fixed NUMBER (a ROOM that was told; also more than once)");
        palaceFault("floor 2 2;fixed ", "0;room .... 0 0", 1);
        palaceFault(two + ";fixed ", "2", 1);
        palaceFault(two + ";fixed ", "2;room .... 0 1", 1);
        WalkingRooms x = with(two + ";fixed 1;fixed 1;fixed 1");
        Due.is("0 is not fixed", x.room(0, 6), 0);
        Due.is("1 is fixed", x.room(1, 6), 1);
        Due.says("key NUMBER NUMBER (a KEY 1 to 4, the ROOM, that was told; of one the last told)");
        palaceFault(two + ";key ", "0 0", 1);
        palaceFault(two + ";key ", "5 0", 1);
        palaceFault(two + ";key 1 ", "2", 1);
        palaceFault("floor 2 2;key 1 ", "0;room .... 0 0", 1);
        palaceFault(two + ";key 1", "", 0);
        x = with(two + ";key 1 0;key 4 0;key 2 1;key 1 1;key 4 1;key 4 0");
        Due.is("KEYS in 0", x.room(0, 7), 16);
        Due.is("KEYS in 1", x.room(1, 7), 6);
        Due.says("person NUMBER (the ROOM, that was told); 4 a seventh PERSON");
        palaceFault(two + ";person ", "2", 1);
        palaceFault("floor 2 2;person ", "0;room .... 0 0", 1);
        String six = two + ";person 1;person 0;person 0;person 1;person 0;person 1";
        x = with(six);
        int[] rooms = {1, 0, 0, 1, 0, 1};
        for (int person = 0; person < 6; person++) {
            Due.is("sleeps(" + person + ")", x.sleeps(person), rooms[person]);
        }
        Due.is("sleeps(6)", x.sleeps(6), NONE);
        palaceFault(six + ";", "person 0", 4);
        palaceFault(six + "; ", "person 9", 4);
        Due.says("ways NUMBER (1 to 7; once at most, 7 without)");
        for (int ways = 1; ways <= 7; ways++) {
            Due.is("ways", with("floor 1 1;ways " + ways).count(4), ways);
            palaceFault("floor 1 1;ways " + ways + ";", "ways " + ways, 4);
            palaceFault("floor 1 1;ways " + ways + ";room .... 0 0;", "ways", 4);
        }
        palaceFault("floor 1 1;ways ", "0", 1);
        palaceFault("floor 1 1;ways ", "8", 1);
        Due.is("without", with(two).count(4), 7);
    }

    private static void blanks() {
        Due.says("Blanks (32) stand between as one likes");
        WalkingRooms x = with("  floor2   2  ;  room   ..d.   1   1  ;fixed0;key4 0;person0;ways6  ");
        Due.is("CELL", x.room(0, 0), 5);
        Due.is("fixed", x.room(0, 6), 1);
        Due.is("KEYS", x.room(0, 7), 16);
        Due.is("ways", x.count(4), 6);
        palaceFault("", "fl oor 2 2", 0);
        palaceFault("floor 2 2;ways 1 ", "2", 0);
        palaceFault("floor 2 2;ways ", "12", 1);
        palaceFault("floor 2 2;room ..", " .. 1 1", 0);
        for (int sign : new int[] {0, 9, 10, 13, 31, 33, 127, 128, 160, 255}) {
            palaceFault("floor 2", (char) sign + "2", 0);
            palaceFault("floor 2 2", String.valueOf((char) sign), 0);
            palaceFault("", (char) sign + "floor 2 2", 0);
            ruleFault("bar x", (char) sign + "=1", 0);
            ruleFault("bar x=1", String.valueOf((char) sign), 0);
        }
        rule("  bar   x  <=  1  and  [  not  y  =  2  ]  ;  bar  x  >  3  ", 0);
        rule("bar x=1and[y=2]or[not x<3]or 5=5", 0);
        Due.says("or the end (behind the last byte)");
        for (String text : new String[] {"", "floor", "floor 2", "floor 2 2;", "floor 2 2;room", "floor 2 2;room ....",
            "floor 2 2;room .... 0", "floor 2 2;fixed", "floor 2 2;key", "floor 2 2;key 1", "floor 2 2;person",
            "floor 2 2;ways"}) {
            palaceFault(text, "", 0);
            palaceFault(text + "  ", "", 0);
        }
        for (String text : new String[] {"", "bar", "bar x", "bar x=", "bar x<", "bar x<=", "bar [", "bar [x=1", "bar not",
            "bar x=1 and", "bar x=1 or", "bar x=1;", "bar x+", "bar x=1*", "bar [[x=1]"}) {
            ruleFault(text, "", 0);
            ruleFault(text + "  ", "", 0);
        }
    }

    // ---- RULES

    private static void ruleClauses() {
        Due.says("RULES 0 to 5");
        WalkingRooms x = new WalkingRooms();
        for (int k = 0; k < 6; k++) {
            Due.is("a wrong one takes no number", Texts.rule(x, "bar"), fault(3, 0));
            Due.is("rule", Texts.rule(x, "bar x=" + k), k);
        }
        Due.says("NONE, and nothing happens: there are 6");
        Texts.onTape(x, "floor 2 1");
        Due.is("rule()", x.rule(), NONE);
        Due.is("TAPE", x.count(14), 9);
        Due.is("RULES", x.count(6), 6);
        Due.is("the TAPE is as it was", x.palace(), 0);
        Due.is("force(5)", x.force(5), NONE);
        Due.is("force(6)", x.force(6), -2);
        Due.says("12 CLAUSES at most");
        String twelve = "bar x=9" + ";bar x=9".repeat(11);
        rule(twelve, 0);
        ruleFault(twelve + ";", "bar x=9", 4);
        ruleFault(twelve + ";   ", "bar", 4);
        ruleFault(twelve + ";", "ba x=9", 0);
        ruleFault(twelve + ";", "", 0);
        x = with("floor 1 1;room .... 0 0");
        Texts.rule(x, "bar x=9" + ";bar x=9".repeat(10) + ";bar x=0");
        x.force(0);
        Due.is("the 12th bars", x.can(), 0);
        x = with("floor 1 1;room .... 0 0");
        Texts.rule(x, "bar x=0" + ";bar x=9".repeat(11));
        x.force(0);
        Due.is("the first bars", x.can(), 0);
    }

    private static void numbersAndWords() {
        Due.says("NUMBER (1 to 5 digits, as far as digits go on)");
        rule("bar 0=00000", 0);
        rule("bar 99999=99999", 0);
        ruleFault("bar ", "100000=1", 1);
        ruleFault("bar ", "000000=1", 1);
        ruleFault("bar x=", "123456", 1);
        ruleFault("bar x=1 or x=", "4294967296123", 1);
        rule("bar 1=1or 2=2", 0);
        ruleFault("bar 1=1 ", "2", 0);
        ruleFault("bar x=1", "x", 0);
        Due.says("WORD (small letters, as far as these go on)");
        for (String word : WORDS) {
            rule("bar " + word + "=1", 0);
            rule("bar 1=" + word, 0);
            rule("bar 1+" + word + "=" + word + "*" + word, 0);
            ruleFault("bar ", word + "s=1", 0);
            ruleFault("bar ", word + "and 1=1", 0);
            ruleFault("bar ", word.toUpperCase() + "=1", 0);
            ruleFault("bar 1=", word.substring(0, word.length() - 1) + "z", 0);
        }
        for (String word : new String[] {"", "kin", "t", "to", "z", "or", "and", "bar", "nots", "no", "true"}) {
            ruleFault("bar ", word + "=1", 0);
            ruleFault("bar 1=", word + ";", 0);
        }
        ruleFault("bar 1=", "not 1", 0);
        ruleFault("bar x=1 ", "andx=1", 0);
        ruleFault("bar x=1 ", "orr x=1", 0);
        ruleFault("bar x=1 ", "bar x=1", 0);
        ruleFault("", "bars x=1", 0);
        ruleFault("", "not x=1", 0);
        ruleFault("bar x=1;", "floor 1 1", 0);
    }

    private static void signsOfFacts() {
        Due.says("SIGN one of < <= = >= >");
        for (String sign : new String[] {"<", "<=", "=", ">=", ">"}) {
            rule("bar x" + sign + "1", 0);
            rule("bar x " + sign + " 1", 0);
            ruleFault("bar x" + sign + "1", sign + "1", 0);
            ruleFault("bar [x" + sign + "1]", sign + "1", 0);
        }
        ruleFault("bar x=", "=1", 0);
        ruleFault("bar x=", "<1", 0);
        ruleFault("bar x=", ">1", 0);
        ruleFault("bar x<", ">1", 0);
        ruleFault("bar x< ", "=1", 0);
        ruleFault("bar x> ", "=1", 0);
        ruleFault("bar x>=", "=1", 0);
        ruleFault("bar x", "!1", 0);
        Due.says("FACT: not FACT | [ TEST ] | SUM SIGN SUM");
        ruleFault("bar x", ";", 0);
        ruleFault("bar x ", "and y=1", 0);
        ruleFault("bar [x", "]=1", 0);
        ruleFault("bar [x=1]", "+1=2", 0);
        ruleFault("bar [x=1", ";bar x=1]", 0);
        ruleFault("bar [", "]", 0);
        ruleFault("bar x=1", "]", 0);
        ruleFault("bar [x=1]", "]", 0);
        ruleFault("bar [x=1] ", "[x=1]", 0);
        ruleFault("bar x=1 ", "[x=1]", 0);
        ruleFault("bar x=1 ", "not x=1", 0);
        ruleFault("bar x=", "[x]", 0);
        ruleFault("bar x+", "[x]=1", 0);
        ruleFault("bar ", "-1=1", 0);
        ruleFault("bar x=", "-1", 0);
        ruleFault("bar x+", "+1=1", 0);
        ruleFault("bar ", ";", 0);
        ruleFault("bar ", "(x=1)", 0);
    }

    private static void depths() {
        Due.says("[ and not lie within one another 10 deep at most");
        String ten = "[".repeat(10);
        String closed = "]".repeat(10);
        rule("bar " + ten + "x=1" + closed, 0);
        rule("bar " + "not ".repeat(10) + "x=1", 0);
        rule("bar " + "not[".repeat(5) + "x=1" + "]".repeat(5), 0);
        rule("bar " + "[not ".repeat(5) + "x=1" + "]".repeat(5), 0);
        Due.says("2 too deep (at the sign that opens, or the word not)");
        ruleFault("bar " + ten, "[x=1", 2);
        ruleFault("bar " + ten + "  ", "[", 2);
        ruleFault("bar " + ten, "not x=1", 2);
        ruleFault("bar " + ten + "x=1 and ", "not x=1", 2);
        ruleFault("bar " + ten + "x=1 or ", "[x=1", 2);
        ruleFault("bar " + "not ".repeat(10), "not x=1", 2);
        ruleFault("bar " + "not ".repeat(10), "[x=1]", 2);
        ruleFault("bar " + "not[".repeat(5), "not x=1", 2);
        ruleFault("bar " + "not[".repeat(5), "[x=1", 2);
        Due.says("lie within one another: those that ended are not counted");
        rule("bar " + "[x=1]and ".repeat(14) + "[x=1]", 0);
        rule("bar " + "not x=1 and ".repeat(14) + "not x=1", 0);
        rule("bar " + "not[x=1]or ".repeat(14) + "[not x=1]", 0);
        for (String ended : new String[] {"not x=1 and ", "[x=1] or ", "not[x=1]and ", "[not x=1]or ", "not not x=1 or ",
            "not[not[x=1]]and ", "x=1;bar ", "not x=1;bar ", "[[x=1]and not x=1]or "}) {
            rule("bar " + ended + ten + "x=1" + closed, 0);
            ruleFault("bar " + ended + ten, "[x=1" + closed + "]", 2);
            rule("bar [" + ended.replace(";bar ", " or ") + ten.substring(1) + "x=1" + closed, 0);
            ruleFault("bar [" + ended.replace(";bar ", " or ") + ten.substring(1), "[", 2);
        }
        rule("bar not " + ten.substring(1) + "x=1" + closed.substring(1) + " or " + ten + "x=1" + closed, 0);
        ruleFault("bar not ", ".", 0);
    }

    private static void counts() {
        Due.says("at most 60 VALUES and FACTS made of a SIGN, together");
        String twenty = "x=1" + " or 2=y".repeat(19);
        rule("bar " + twenty, 0);
        rule("bar [" + twenty + "]", 0);
        rule("bar " + "not x=1 and [x=1] or ".repeat(9) + "not x=1 or x=1", 0);
        String sixty = "1" + "+1".repeat(59);
        String most = "1" + "+1".repeat(57) + "=1";
        rule("bar " + most, 0);
        rule("bar x=1" + ";bar x=1".repeat(11), 0);
        Due.says("3 one VALUE or FACT too many (at its first byte; of a FACT at its SIGN)");
        ruleFault("bar " + twenty + " or ", "x=1", 3);
        ruleFault("bar " + twenty + " or not ", "12345=1", 3);
        ruleFault("bar " + twenty + ";bar ", "x=1", 3);
        ruleFault("bar " + twenty + " or [", "faults=1", 3);
        ruleFault("bar " + most + "+", "1", 3);
        ruleFault("bar " + most + " * ", "99999", 3);
        ruleFault("bar " + most + " or ", "after", 3);
        for (String sign : new String[] {"<", "<=", "=", ">=", ">"}) {
            ruleFault("bar " + sixty, sign + "1", 3);
            ruleFault("bar " + sixty + "  ", sign, 3);
        }
        ruleFault("bar 1=" + "1+".repeat(58), "1", 3);
        Due.says("Of one place the least");
        ruleFault("bar " + twenty + " or ", "z=1", 0);
        ruleFault("bar " + twenty + " or ", "123456=1", 1);
        ruleFault("bar " + sixty, "!1", 0);
        ruleFault("bar " + twenty + " or ", "]", 0);
        palaceFault("floor 1 1;room .... ", "4 0", 1);
    }

    // ---- what RULES mean

    private static void holds(String test, boolean is) {
        WalkingRooms x = with("floor 1 1;room .... 0 0");
        Due.is("rule bar " + test, Texts.rule(x, "bar " + test), 0);
        x.force(0);
        Due.is(test, x.can() == 0, is);
    }

    private static void facts() {
        Due.says("SUM SIGN SUM, SIGN one of < <= = >= >");
        for (int a = 1; a <= 3; a++) {
            for (int b = 1; b <= 3; b++) {
                holds(a + "<" + b, a < b);
                holds(a + "<=" + b, a <= b);
                holds(a + "=" + b, a == b);
                holds(a + ">=" + b, a >= b);
                holds(a + ">" + b, a > b);
                for (String sign : new String[] {"<", "<=", "=", ">=", ">"}) {
                    int side = Integer.compare(a, b);
                    boolean is = sign.contains("=") && side == 0 || sign.contains("<") && side < 0
                            || sign.contains(">") && side > 0;
                    holds("not " + a + sign + b, !is);
                    holds("not not " + a + sign + b, is);
                    holds(a + "+7" + sign + "7+" + b, is);
                    holds(a + "-1" + sign + b + "-1", is);
                    holds("2*" + a + sign + b + "*2", is);
                    holds("8*" + a + "/4" + sign + "8*" + b + "/4", is);
                    holds(a + "%8" + sign + b + "%8", is);
                }
            }
        }
        Due.says("TEST: PART { or PART }. PART: FACT { and FACT }. FACT: not FACT | [ TEST ]");
        String[] yes = {"1<2", "1<=2", "2<=2", "1=1", "2>=2", "2>=1", "2>1", "not 1=2", "[1=1]", "not not 1<2"};
        String[] no = {"2<1", "1<1", "2<=1", "1=2", "1>=2", "1>2", "not 1=1", "[1=2]", "not not 2<1"};
        for (int k = 0; k < yes.length; k++) {
            for (String other : yes) {
                holds(yes[k] + " and " + other, true);
                holds(no[k % no.length] + " and " + other, false);
                holds(other + " and " + no[k % no.length], false);
                holds(no[k % no.length] + " or " + other, true);
                holds(other + " or " + no[k % no.length], true);
            }
        }
        for (int bits = 0; bits < 8; bits++) {
            boolean a = (bits & 1) > 0;
            boolean b = (bits & 2) > 0;
            boolean c = (bits & 4) > 0;
            String ta = a ? "2>1" : "1>2";
            String tb = b ? "1<=1" : "2<=1";
            String tc = c ? "5=5" : "5=6";
            holds(ta + " and " + tb + " or " + tc, a && b || c);
            holds(ta + " or " + tb + " and " + tc, a || b && c);
            holds("[" + ta + " or " + tb + "]and " + tc, (a || b) && c);
            holds("not " + ta + " and " + tb, !a && b);
            holds("not " + ta + " or " + tb, !a || b);
            holds("not[" + ta + " and " + tb + "]or " + tc, !(a && b) || c);
            holds("not[" + ta + " or " + tb + "]and not " + tc, !(a || b) && !c);
            holds(ta + ";bar " + tb + ";bar " + tc, a || b || c);
        }
    }

    private static void sums() {
        Due.says("SUM: TERM { (+ or -) TERM }. TERM: VALUE { (* or / or %) VALUE }");
        String[] so = {"2+3*4=14", "2*3+4=10", "10-4-3=3", "10-4+3=9", "10+4-3=11", "24/4/2=3", "24/4*2=12", "24*4/2=48",
            "20%7*2=12", "2*20%7=5", "20%7%4=2", "20/3%4=2", "1+6/3-2*2=0-1", "9-8%5-1=5", "1+1=3-1", "2*3=12/2", "8-9<0",
            "1-2*3<0-4", "5<=2+3", "5>=2+3", "5>2*2", "1+2>2", "2<1+2", "4>=9-5", "4<=9-5", "6=5+1"};
        for (String test : so) {
            holds(test, true);
            holds("not " + test, false);
        }
        Due.says("/ is towards 0, % its rest, both 0 by 0; all goes round in 64 bits");
        // An odd number below 0, as it goes round.
        long round = 99999L * 99999 * 99999 * 86713;
        String product = "99999*99999*99999*86713";
        Due.is("it went round to below 0", round < 0, true);
        holds(product + "<0", true);
        holds(product + "%99998=0-" + -(round % 99998), true);
        holds(product + "/99999%97=0-" + -(round / 99999 % 97), true);
        holds(product + "/99999/99999/99998=0-" + -(round / 99999 / 99999 / 99998), true);
        holds(product + "/2*2-1=" + product, true);
        holds(product + "%2=0-1", true);
        holds("32768*32768*32768*32768*8<0", true);
        holds("32768*32768*32768*32768*16=0", true);
        holds("32768*32768*32768*32768*8-1>0", true);
        holds("32768*32768*32768*32768*8=0-32768*32768*32768*32768*8", true);
        for (String value : new String[] {"0", "1", "99999"}) {
            holds(value + "/0=0", true);
            holds(value + "%0=0", true);
            holds("0/" + value + "=0", true);
            holds("0%" + value + "=0", true);
        }
        holds("5/x=0", true);
        holds("5%x=0", true);
        holds("7+5/0=7", true);
        holds("7%3=1 and 7/3=2 and 6%3=0 and 99999/99999=1 and 1/99999=0 and 1%99999=1", true);
    }

    public static void main(String[] args) {
        bytes();
        clauses();
        floors();
        signs();
        places();
        told();
        blanks();
        ruleClauses();
        numbersAndWords();
        signsOfFacts();
        depths();
        counts();
        facts();
        sums();
        Due.end();
    }
}

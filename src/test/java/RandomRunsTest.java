import java.lang.reflect.Method;
import java.util.ArrayList;
import java.util.List;
import java.util.Map;
import java.util.Random;
import java.util.TreeMap;

/** Runs of calls by chance (the same ones each time), answered by the class and by the Model: all alike. */
public final class RandomRunsTest {
    private static final String[] CALLS = {
        "force", "law", "room", "at", "sleeps", "mismatch", "brick", "lay", "bed", "fix", "walk", "rest", "undo",
        "can", "choice", "draft", "redraw", "drafted", "nights", "row", "marks", "floors", "steps", "reach", "gossip",
        "almanac", "would", "follow", "wish", "beds", "almost", "guards", "drift", "woke", "how", "built", "best",
        "seed", "drawn", "count", "image", "back", "feed", "end", "palace", "rule",
    };
    private static final String[] OFTEN = {
        "walk", "walk", "walk", "walk", "walk", "almanac", "wish", "woke", "redraw", "redraw", "choice", "row",
    };

    private final Random random;
    private final WalkingRooms real = new WalkingRooms();
    private final Model model = new Model();
    private final List<String> told = new ArrayList<>();
    private static final Map<String, Method> REAL = methods(WalkingRooms.class);
    private static final Map<String, Method> MODEL = methods(Model.class);
    private static final Map<String, Integer> ANSWERS = new TreeMap<>();
    private static int calls = 0;
    private int budget = 512;
    private int rooms;

    private RandomRunsTest(long seed) {
        random = new Random(seed);
    }

    private static Map<String, Method> methods(Class<?> of) {
        Map<String, Method> all = new TreeMap<>();
        for (Method m : of.getDeclaredMethods()) {
            if (List.of(CALLS).contains(m.getName()) && !m.isSynthetic()
                    && (m.getReturnType() == int.class || m.getReturnType() == boolean.class)) {
                m.setAccessible(true);
                all.put(m.getName(), m);
            }
        }
        return all;
    }

    private boolean call(String name, Object... args) throws Exception {
        budget--;
        calls++;
        Object got = REAL.get(name).invoke(real, args);
        Object want = MODEL.get(name).invoke(model, args);
        told.add(name + java.util.Arrays.toString(args) + " " + got);
        String sort = !want.toString().startsWith("-") ? "+" : want.toString().length() > 2 ? "-.." : want.toString();
        ANSWERS.merge(name + " " + sort, 1, Integer::sum);
        if (got.equals(want)) {
            return true;
        }
        System.out.println(name + java.util.Arrays.toString(args) + " answered " + got + ", the model says " + want);
        int from = Math.max(0, told.size() - 500);
        for (String line : told.subList(from, told.size())) {
            System.out.println("  " + line);
        }
        return false;
    }

    private boolean tape(String text) throws Exception {
        boolean ok = call("end", 0);
        for (int[] f : Texts.feeds(text)) {
            ok = ok && call("feed", f[0], f[1], f[2], f[3], f[4]);
        }
        return ok && call("end", text.length());
    }

    private int below(int n) {
        return random.nextInt(n);
    }

    private String gap() {
        return " ".repeat(below(10) == 0 ? 2 : 1);
    }

    private String palaceText(boolean small) {
        int columns = 1 + below(small ? 3 : 4);
        int rows = 1 + below(small ? 2 : 4);
        StringBuilder t = new StringBuilder("floor").append(gap()).append(columns).append(gap()).append(rows);
        int many = Math.min(columns * rows, below(small ? 5 : 13));
        if (!small && below(3) == 0) {
            many = Math.min(12, Math.max(0, columns * rows - 1));
        }
        List<Integer> cells = new ArrayList<>();
        for (int c = 0; c < 16; c++) {
            if (c % 4 < columns && c / 4 < rows) {
                cells.add(c);
            }
        }
        java.util.Collections.shuffle(cells, random);
        String signs = new String[] {"....d", "..dw1", ".d", "ddd.1", ".dw1234", ".", "d"}[below(7)];
        for (int r = 0; r < many; r++) {
            t.append(below(6) == 0 ? " ; " : ";").append("room ");
            for (int i = 0; i < 4; i++) {
                t.append(signs.charAt(below(signs.length())));
            }
            t.append(gap()).append(cells.get(r) % 4).append(gap()).append(cells.get(r) / 4);
        }
        int clauses = below(5) + (below(4) == 0 ? below(6) : 0);
        boolean ways = false;
        for (int k = 0; k < clauses && many > 0; k++) {
            int sort = below(5);
            if (sort == 0 && below(2) == 0) {
                t.append(";fixed ").append(below(many));
            } else if (sort == 1) {
                t.append(";key ").append(1 + below(4)).append(' ').append(below(many));
            } else if (sort < 4) {
                t.append(";person ").append(below(many));
            } else if (!ways && below(2) == 0) {
                ways = true;
                t.append(";ways ").append(1 + below(7));
            }
        }
        rooms = many;
        return t.length() > 400 ? t.substring(0, 400) : t.toString();
    }

    private String spoil(String text, String signs) {
        StringBuilder t = new StringBuilder(text);
        for (int k = 1 + below(2); k > 0 && t.length() > 0; k--) {
            int place = below(t.length());
            switch (below(5)) {
                case 0:
                    t.deleteCharAt(place);
                    break;
                case 1:
                    t.setCharAt(place, signs.charAt(below(signs.length())));
                    break;
                case 2:
                    t.insert(place, signs.charAt(below(signs.length())));
                    break;
                case 3:
                    t.setLength(place);
                    break;
                default:
                    t.append(text, 0, Math.min(place, text.length()));
                    break;
            }
        }
        return t.length() > 400 ? t.substring(0, 400) : t.toString();
    }

    private String value() {
        String[] words = {"kind", "room", "other", "x", "y", "tox", "toy", "doors", "locks", "people", "night", "faults",
            "after"};
        int which = below(20);
        if (which < 13) {
            return words[which];
        }
        return String.valueOf(which == 13 ? 99999 : which == 14 ? below(1000) : below(5));
    }

    private String sum() {
        StringBuilder t = new StringBuilder(value());
        while (below(3) == 0) {
            t.append(" ".repeat(below(2))).append("+-*/%".charAt(below(5))).append(" ".repeat(below(2))).append(value());
        }
        return t.toString();
    }

    private String test(int depth) {
        StringBuilder t = new StringBuilder();
        do {
            if (t.length() > 0) {
                t.append(below(2) == 0 ? " and " : " or ");
            }
            int sort = below(6);
            if (sort == 0 && depth < 4) {
                t.append("not ").append(below(2) == 0 ? "not " : "").append('[').append(test(depth + 1)).append(']');
            } else if (sort == 1 && depth < 4) {
                t.append("[ ").append(test(depth + 1)).append(" ]");
            } else {
                t.append(sort == 2 ? "not " : "").append(sum())
                        .append(new String[] {"<", "<=", "=", ">=", ">"}[below(5)]).append(sum());
            }
        } while (below(3) == 0);
        return t.toString();
    }

    private String ruleText() {
        StringBuilder t = new StringBuilder("bar ").append(test(0));
        while (below(3) == 0) {
            t.append(";bar ").append(test(1));
        }
        return t.length() > 400 ? t.substring(0, 400) : t.toString();
    }

    private int near(int most) {
        return below(12) == 0 ? below(most + 5) - 2 : below(most + 1);
    }

    private int aRoom() {
        return near(Math.max(0, rooms - 1));
    }

    private Object[] argumentsOf(String name) {
        int kind = below(30) == 0 ? near(3) : 1 + below(3);
        int other = kind == 1 ? near(3) : kind == 2 ? aRoom() : below(20) == 0 ? 1 : 0;
        switch (name) {
            case "force":
                return new Object[] {below(3) == 0 ? -1 : near(5)};
            case "law":
                return new Object[] {near(2)};
            case "room":
                return new Object[] {aRoom(), near(8)};
            case "at":
                return new Object[] {near(3), near(3)};
            case "sleeps":
                return new Object[] {near(5)};
            case "mismatch":
                return new Object[] {near(3)};
            case "brick":
                return new Object[] {aRoom(), near(3), near(6)};
            case "lay":
                return new Object[] {1 + near(3), below(6) == 0 ? -1 : aRoom()};
            case "bed":
                return new Object[] {near(3), aRoom()};
            case "fix":
                return new Object[] {aRoom(), below(3) == 0};
            case "walk":
            case "almanac":
                return new Object[] {name.equals("almanac") && below(40) == 0 ? -1 : kind, aRoom(), other};
            case "choice":
                return new Object[] {near(below(2) == 0 ? 6 : 30), near(3)};
            case "draft":
            case "nights":
            case "marks":
            case "image":
            case "back":
                return new Object[] {near(3)};
            case "redraw":
                return new Object[] {near(3), kind, aRoom(), other};
            case "drafted":
                return new Object[] {near(3), aRoom(), near(1)};
            case "row":
                return new Object[] {near(3), near(4), near(2)};
            case "steps":
                return new Object[] {aRoom(), aRoom()};
            case "reach":
                return new Object[] {aRoom(), near(1)};
            case "gossip":
                return new Object[] {aRoom(), near(below(2) == 0 ? 3 : 16)};
            case "would":
                return new Object[] {aRoom(), near(6), near(2)};
            case "wish":
                return new Object[] {below(30) == 0 ? -1 : near(3), near(below(3) == 0 ? 10 : 2), near(2), near(2)};
            case "beds":
                return new Object[] {near(6)};
            case "almost":
                return new Object[] {near(3), aRoom()};
            case "guards":
                return new Object[] {near(1)};
            case "drift":
                return new Object[] {near(2)};
            case "woke":
                return new Object[] {below(8) == 0 ? -1 : aRoom(), near(2), near(2)};
            case "how":
                return new Object[] {near(rooms > 6 ? 1 : rooms > 4 ? 2 : 3), near(6)};
            case "built":
                return new Object[] {near(3), near(3), near(4)};
            case "seed":
                return new Object[] {below(9) == 0 ? -below(5) : random.nextInt() & Integer.MAX_VALUE};
            case "drawn":
                return new Object[] {below(20) == 0 ? near(10) : 1 + below(3), below(20) == 0 ? near(60) : 1 + below(8),
                    aRoom(), aRoom(), near(2)};
            case "count":
                return new Object[] {near(16)};
            case "feed":
                return new Object[] {random.nextInt(), random.nextInt(), 0, 1, -1};
            case "end":
                return new Object[] {near(40)};
            default:
                return new Object[0];
        }
    }

    /** A DRAFT that is some WALKS away, and the whole ROW to it. */
    private boolean seekDraft() throws Exception {
        int draft = below(4);
        boolean ok = call("draft", draft);
        for (int k = below(5); ok && k > 0 && real.can() > 0; k--) {
            int which = below(real.can());
            if (below(2) == 0) {
                ok = call("redraw", draft, real.choice(which, 0), real.choice(which, 1), real.choice(which, 2));
            } else {
                ok = call("walk", real.choice(which, 0), real.choice(which, 1), real.choice(which, 2));
            }
        }
        ok = ok && call("nights", draft) && call("marks", draft);
        for (int k = 0; ok && k <= real.nights(draft); k++) {
            ok = call("row", draft, k, 0) && call("row", draft, k, 1) && call("row", draft, k, 2);
        }
        return ok && call("count", 16);
    }

    /** An ALMANAC of WALKS, most of which may be, WISHES for its NIGHTS, and all that is asked of these. */
    private boolean planNights() throws Exception {
        boolean ok = true;
        for (int k = below(12); ok && k > 0; k--) {
            if (real.can() > 0 && below(4) != 0) {
                int which = below(real.can());
                ok = call("almanac", real.choice(which, 0), real.choice(which, 1), real.choice(which, 2));
            } else {
                ok = call("almanac", argumentsOf("almanac"));
            }
        }
        for (int k = below(3); ok && k > 0; k--) {
            int room = aRoom();
            int nights = below(3);
            int cell = Math.max(0, real.would(room, nights, 0));
            ok = call("wish", below(3), nights, cell % 4, cell / 4);
        }
        for (int k = 0; ok && k < 3; k++) {
            ok = call("would", aRoom(), near(10), near(2)) && call("beds", near(6)) && call("almost", near(3), aRoom());
        }
        return ok && call("beds", 0) && call("follow") && call("count", 8) && call("count", 9) && call("undo");
    }

    private boolean runCalls() throws Exception {
        boolean small = below(3) != 0;
        boolean ok = true;
        if (below(20) != 0) {
            ok = tape(palaceText(small)) && call("palace");
        }
        for (int k = below(4); k > 0; k--) {
            ok = ok && tape(ruleText()) && call("rule");
        }
        while (ok && budget > 60) {
            if (rooms > 0 && below(60) == 0) {
                ok = rooms < 9 ? seekDraft() && planNights() : planNights();
                continue;
            }
            int which = below(CALLS.length + OFTEN.length);
            String name = which < CALLS.length ? CALLS[which] : OFTEN[which - CALLS.length];
            if (List.of("nights", "row", "how", "beds", "almost", "floors", "drawn", "best", "back").contains(name)
                    && below(small ? 2 : 5) != 0) {
                continue;
            }
            if (name.equals("palace") && below(4) != 0) {
                continue;
            }
            if (name.equals("palace")) {
                String text = palaceText(below(3) != 0);
                ok = tape(below(3) == 0 ? spoil(text, ".dw1204;x9 [r") : text) && call("palace");
                rooms = real.count(2);
            } else if (name.equals("rule")) {
                String text = ruleText();
                ok = tape(below(2) == 0 ? spoil(text, "ax=<>[] ;+0139not") : text) && call("rule");
            } else {
                ok = call(name, argumentsOf(name));
                if (name.equals("back")) {
                    rooms = real.count(2);
                }
            }
        }
        return ok;
    }

    private boolean runTexts() throws Exception {
        boolean ok = true;
        while (ok && budget > 60) {
            if (below(2) == 0) {
                ok = tape(spoil(palaceText(below(2) == 0), ".dw1204;x9 [rfkp\u0000\u00ff")) && call("palace");
            } else {
                ok = tape(spoil(ruleText(), "ax=<>[] ;+0139not%/\u0000\u00ff")) && call("rule");
            }
        }
        return ok;
    }

    /** Any numbers at all, most of them far out, in a palace and without one. */
    private boolean runWild() throws Exception {
        int[] wild = {Integer.MIN_VALUE, Integer.MAX_VALUE, -2, -1, 0, 0, 1, 1, 2, 3, 4, 16, 31, 32, 33, 255, 256, 1 << 28};
        boolean ok = below(4) == 0 || tape(palaceText(true)) && call("palace");
        while (ok && budget > 60) {
            String name = CALLS[below(CALLS.length)];
            Class<?>[] types = REAL.get(name).getParameterTypes();
            Object[] values = new Object[types.length];
            for (int i = 0; i < values.length; i++) {
                int value = below(5) == 0 ? random.nextInt() : wild[below(wild.length)];
                values[i] = types[i] == boolean.class ? (Object) (value > 0) : (Object) value;
            }
            ok = call(name, values);
        }
        return ok;
    }

    public static void main(String[] args) throws Exception {
        int runs = args.length > 0 ? Integer.parseInt(args[0]) : 300;
        long base = args.length > 1 ? Long.parseLong(args[1]) : 1;
        for (int k = 0; k < runs; k++) {
            RandomRunsTest run = new RandomRunsTest(1000003 * base + k);
            boolean ok = k % 8 == 5 ? run.runWild() : k % 4 == 3 ? run.runTexts() : run.runCalls();
            if (!ok) {
                System.out.println("run " + k + " failed");
                System.exit(1);
            }
        }
        if (args.length > 2) {
            System.out.println(ANSWERS);
        }
        System.out.println(runs + " runs, " + calls + " calls: all alike");
    }
}

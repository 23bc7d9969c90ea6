import java.util.ArrayDeque;
import java.util.ArrayList;
import java.util.Arrays;
import java.util.HashMap;
import java.util.HashSet;
import java.util.List;
import java.util.Map;
import java.util.Set;

/**
 * The document told again in the plainest way, without any thought of speed or memory: every question
 * is answered by trying all there is. It serves as the other voice in RandomRunsTest.
 */
final class Model {
    static final class Fault extends RuntimeException {
        final int number;

        Fault(int place, int code) {
            number = 1 + 8 * place + code;
        }
    }

    interface Value {
        long of(Night night);
    }

    /** A WALK, as a RULE sees it. */
    record Night(Plan plan, Walk walk, State state, int night, int faults, int after) {
    }

    record Walk(int kind, int room, int other) {
    }

    /** Where the rooms are and how they are turned. */
    static final class Plan {
        int[] x = new int[0];
        int[] y = new int[0];
        int[] turn = new int[0];

        Plan copy() {
            Plan p = new Plan();
            p.x = x.clone();
            p.y = y.clone();
            p.turn = turn.clone();
            return p;
        }

        int roomAt(int atX, int atY) {
            for (int r = 0; r < x.length; r++) {
                if (x[r] == atX && y[r] == atY) {
                    return r;
                }
            }
            return -1;
        }

        String key() {
            return Arrays.toString(x) + Arrays.toString(y) + Arrays.toString(turn);
        }
    }

    static final class State {
        boolean told;
        int columns;
        int rows;
        int ways;
        List<int[]> sides = new ArrayList<>();
        Plan plan = new Plan();
        Set<Integer> fixed = new HashSet<>();
        Map<Integer, Integer> keys = new HashMap<>();
        List<Integer> people = new ArrayList<>();
        int law;
        int force = -1;
        int nights;
        int x;
        ArrayDeque<Plan> past = new ArrayDeque<>();
        Map<Integer, Plan> drafts = new HashMap<>();
        List<Walk> almanac = new ArrayList<>();
        List<int[]> wishes = new ArrayList<>();
        List<int[]> woken = new ArrayList<>();

        State copy() {
            State s = new State();
            s.told = told;
            s.columns = columns;
            s.rows = rows;
            s.ways = ways;
            for (int[] side : sides) {
                s.sides.add(side.clone());
            }
            s.plan = plan.copy();
            s.fixed.addAll(fixed);
            s.keys.putAll(keys);
            s.people.addAll(people);
            s.law = law;
            s.force = force;
            s.nights = nights;
            s.x = x;
            for (Plan p : past) {
                s.past.addLast(p.copy());
            }
            for (Map.Entry<Integer, Plan> e : drafts.entrySet()) {
                s.drafts.put(e.getKey(), e.getValue().copy());
            }
            s.almanac.addAll(almanac);
            for (int[] w : wishes) {
                s.wishes.add(w.clone());
            }
            for (int[] w : woken) {
                s.woken.add(w.clone());
            }
            return s;
        }

        int rooms() {
            return sides.size();
        }

        boolean isRoom(int r) {
            return told && r >= 0 && r < rooms();
        }

        boolean onFloor(int cx, int cy) {
            return told && cx >= 0 && cy >= 0 && cx < columns && cy < rows;
        }
    }

    static final int[] DX = {0, 1, 0, -1};
    static final int[] DY = {-1, 0, 1, 0};

    StringBuilder tape = new StringBuilder();
    List<List<Value>> rules = new ArrayList<>();
    State s = new State();
    State[] images = new State[4];

    // ---- reading

    private String text;
    private int at;
    private int counted;

    private char peek() {
        while (at < text.length() && text.charAt(at) == ' ') {
            at++;
        }
        return at < text.length() ? text.charAt(at) : 0xFFFF;
    }

    private String word() {
        peek();
        int from = at;
        while (at < text.length() && text.charAt(at) >= 'a' && text.charAt(at) <= 'z') {
            at++;
        }
        if (from == at) {
            throw new Fault(from, 0);
        }
        return text.substring(from, at);
    }

    private int number(int least, int most) {
        peek();
        int from = at;
        while (at < text.length() && text.charAt(at) >= '0' && text.charAt(at) <= '9') {
            at++;
        }
        if (from == at) {
            throw new Fault(from, 0);
        }
        if (at - from > 5) {
            throw new Fault(from, 1);
        }
        int n = Integer.parseInt(text.substring(from, at));
        if (n < least || n > most) {
            throw new Fault(from, 1);
        }
        return n;
    }

    private State readPalace() {
        State n = new State();
        n.told = true;
        n.ways = 7;
        boolean ways = false;
        at = 0;
        for (int clause = 1;; clause++) {
            peek();
            int first = at;
            String w = word();
            if (!List.of("floor", "room", "fixed", "key", "person", "ways").contains(w)) {
                throw new Fault(first, 0);
            }
            boolean four = clause > 40;
            four |= clause == 1 && !w.equals("floor");
            four |= clause > 1 && w.equals("floor");
            four |= w.equals("ways") && ways;
            four |= w.equals("room") && n.rooms() == 12;
            four |= w.equals("person") && n.people.size() == 6;
            if (four) {
                throw new Fault(first, 4);
            }
            if (w.equals("floor")) {
                n.columns = number(1, 4);
                n.rows = number(1, 4);
            } else if (w.equals("room")) {
                readRoom(n);
            } else if (w.equals("fixed")) {
                n.fixed.add(number(0, n.rooms() - 1));
            } else if (w.equals("key")) {
                int k = number(1, 4);
                n.keys.put(k, number(0, n.rooms() - 1));
            } else if (w.equals("person")) {
                n.people.add(number(0, n.rooms() - 1));
            } else {
                n.ways = number(1, 7);
                ways = true;
            }
            char c = peek();
            if (c == 0xFFFF) {
                return n;
            }
            if (c != ';') {
                throw new Fault(at, 0);
            }
            at++;
        }
    }

    private void readRoom(State n) {
        peek();
        int[] side = new int[4];
        for (int i = 0; i < 4; i++) {
            int sort = at < text.length() ? ".dw1234".indexOf(text.charAt(at)) : -1;
            if (sort < 0) {
                throw new Fault(at, 0);
            }
            side[i] = sort;
            at++;
        }
        peek();
        int placeOfX = at;
        int x = number(0, 3);
        int y = number(0, 3);
        if (!n.onFloor(x, y) || n.plan.roomAt(x, y) >= 0) {
            throw new Fault(placeOfX, 5);
        }
        n.sides.add(side);
        int r = n.rooms();
        n.plan.x = Arrays.copyOf(n.plan.x, r);
        n.plan.y = Arrays.copyOf(n.plan.y, r);
        n.plan.turn = Arrays.copyOf(n.plan.turn, r);
        n.plan.x[r - 1] = x;
        n.plan.y[r - 1] = y;
    }

    private List<Value> readRule() {
        List<Value> bars = new ArrayList<>();
        at = 0;
        counted = 0;
        while (true) {
            peek();
            int first = at;
            if (!word().equals("bar")) {
                throw new Fault(first, 0);
            }
            if (bars.size() == 12) {
                throw new Fault(first, 4);
            }
            bars.add(test(0));
            char c = peek();
            if (c == 0xFFFF) {
                return bars;
            }
            if (c != ';') {
                throw new Fault(at, 0);
            }
            at++;
        }
    }

    private boolean takes(String w) {
        peek();
        int from = at;
        int to = from;
        while (to < text.length() && text.charAt(to) >= 'a' && text.charAt(to) <= 'z') {
            to++;
        }
        if (text.substring(from, to).equals(w)) {
            at = to;
            return true;
        }
        return false;
    }

    private Value test(int depth) {
        Value left = part(depth);
        while (takes("or")) {
            Value a = left;
            Value b = part(depth);
            left = n -> a.of(n) != 0 || b.of(n) != 0 ? 1 : 0;
        }
        return left;
    }

    private Value part(int depth) {
        Value left = fact(depth);
        while (takes("and")) {
            Value a = left;
            Value b = fact(depth);
            left = n -> a.of(n) != 0 && b.of(n) != 0 ? 1 : 0;
        }
        return left;
    }

    private Value fact(int depth) {
        char c = peek();
        int from = at;
        if (takes("not")) {
            if (depth == 10) {
                throw new Fault(from, 2);
            }
            Value f = fact(depth + 1);
            return n -> f.of(n) == 0 ? 1 : 0;
        }
        if (c == '[') {
            if (depth == 10) {
                throw new Fault(from, 2);
            }
            at++;
            Value t = test(depth + 1);
            if (peek() != ']') {
                throw new Fault(at, 0);
            }
            at++;
            return t;
        }
        Value a = sum();
        peek();
        int place = at;
        String sign = null;
        for (String g : List.of("<=", ">=", "<", "=", ">")) {
            if (sign == null && text.startsWith(g, at)) {
                sign = g;
            }
        }
        if (sign == null) {
            throw new Fault(place, 0);
        }
        if (counted == 60) {
            throw new Fault(place, 3);
        }
        counted++;
        at += sign.length();
        Value b = sum();
        switch (sign) {
            case "<":
                return n -> a.of(n) < b.of(n) ? 1 : 0;
            case "<=":
                return n -> a.of(n) <= b.of(n) ? 1 : 0;
            case "=":
                return n -> a.of(n) == b.of(n) ? 1 : 0;
            case ">=":
                return n -> a.of(n) >= b.of(n) ? 1 : 0;
            default:
                return n -> a.of(n) > b.of(n) ? 1 : 0;
        }
    }

    private Value sum() {
        Value left = term();
        while (true) {
            char c = peek();
            if (c != '+' && c != '-') {
                return left;
            }
            at++;
            Value a = left;
            Value b = term();
            left = c == '+' ? n -> a.of(n) + b.of(n) : n -> a.of(n) - b.of(n);
        }
    }

    private Value term() {
        Value left = value();
        while (true) {
            char c = peek();
            if (c != '*' && c != '/' && c != '%') {
                return left;
            }
            at++;
            Value a = left;
            Value b = value();
            if (c == '*') {
                left = n -> a.of(n) * b.of(n);
            } else if (c == '/') {
                left = n -> b.of(n) == 0 ? 0 : a.of(n) / b.of(n);
            } else {
                left = n -> b.of(n) == 0 ? 0 : a.of(n) % b.of(n);
            }
        }
    }

    private Value value() {
        char c = peek();
        int from = at;
        Value v;
        if (c >= '0' && c <= '9') {
            int k = number(0, 99999);
            v = n -> k;
        } else {
            String w = word();
            v = named(w, from);
        }
        if (counted == 60) {
            throw new Fault(from, 3);
        }
        counted++;
        return v;
    }

    private static Value named(String w, int from) {
        switch (w) {
            case "kind":
                return n -> n.walk.kind;
            case "room":
                return n -> n.walk.room;
            case "other":
                return n -> n.walk.kind == 2 ? n.walk.other : 99;
            case "x":
                return n -> n.plan.x[n.walk.room];
            case "y":
                return n -> n.plan.y[n.walk.room];
            case "tox":
                return n -> gone(n.plan, n.walk).x[n.walk.room];
            case "toy":
                return n -> gone(n.plan, n.walk).y[n.walk.room];
            case "doors":
                return n -> Arrays.stream(n.state.sides.get(n.walk.room)).filter(k -> kind(k) == 1).count();
            case "locks":
                return n -> Arrays.stream(n.state.sides.get(n.walk.room)).filter(k -> k > 2).count();
            case "people":
                return n -> n.state.people.stream().filter(p -> p == n.walk.room).count();
            case "night":
                return n -> n.night;
            case "faults":
                return n -> n.faults;
            case "after":
                return n -> n.after;
            default:
                throw new Fault(from, 0);
        }
    }

    // ---- the floor

    static int kind(int sort) {
        return sort > 2 ? 1 : sort;
    }

    static int lies(State st, Plan p, int room, int side) {
        int[] told = st.sides.get(room).clone();
        for (int t = 0; t < p.turn[room]; t++) {
            told = new int[] {told[3], told[0], told[1], told[2]};
        }
        return told[side];
    }

    /** All MISMATCHES as x, y, side, in their order. */
    static List<int[]> mismatches(State st, Plan p) {
        List<int[]> all = new ArrayList<>();
        for (int y = 0; y < st.rows; y++) {
            for (int x = 0; x < st.columns; x++) {
                int r = p.roomAt(x, y);
                for (int side = 0; side < 4 && r >= 0; side++) {
                    int k = kind(lies(st, p, r, side));
                    int o = p.roomAt(x + DX[side], y + DY[side]);
                    if (o < 0) {
                        if (k == 1) {
                            all.add(new int[] {x, y, side});
                        }
                    } else if ((side == 1 || side == 2) && kind(lies(st, p, o, (side + 2) % 4)) != k) {
                        all.add(new int[] {x, y, side});
                    }
                }
            }
        }
        return all;
    }

    static Plan gone(Plan p, Walk w) {
        Plan n = p.copy();
        if (w.kind == 1) {
            n.x[w.room] += DX[w.other];
            n.y[w.room] += DY[w.other];
        } else if (w.kind == 2) {
            n.x[w.room] = p.x[w.other];
            n.y[w.room] = p.y[w.other];
            n.x[w.other] = p.x[w.room];
            n.y[w.other] = p.y[w.room];
        } else {
            n.turn[w.room] = (n.turn[w.room] + 1) % 4;
        }
        return n;
    }

    int broken(Plan p, Walk w, int night) {
        if ((s.ways & 1 << w.kind - 1) == 0 || s.fixed.contains(w.room)
                || w.kind == 2 && s.fixed.contains(w.other)) {
            return 1;
        }
        if (w.kind == 1) {
            int x = p.x[w.room] + DX[w.other];
            int y = p.y[w.room] + DY[w.other];
            if (!s.onFloor(x, y) || p.roomAt(x, y) >= 0) {
                return 2;
            }
        }
        if (w.kind == 2) {
            if (Math.abs(p.x[w.room] - p.x[w.other]) + Math.abs(p.y[w.room] - p.y[w.other]) != 1) {
                return 2;
            }
        }
        int now = mismatches(s, p).size();
        int then = mismatches(s, gone(p, w)).size();
        if (s.law == 1 && then > now || s.law == 2 && then > 0) {
            return 3;
        }
        if (s.force >= 0) {
            for (Value bar : rules.get(s.force)) {
                if (bar.of(new Night(p, w, s, night, now, then)) != 0) {
                    return 4;
                }
            }
        }
        return 0;
    }

    List<Walk> may(Plan p, int night) {
        List<Walk> all = new ArrayList<>();
        for (int r = 0; r < s.rooms(); r++) {
            for (int side = 0; side < 4; side++) {
                all.add(new Walk(1, r, side));
            }
        }
        for (int r = 0; r < s.rooms(); r++) {
            for (int o = r + 1; o < s.rooms(); o++) {
                all.add(new Walk(2, r, o));
            }
        }
        for (int r = 0; r < s.rooms(); r++) {
            all.add(new Walk(3, r, 0));
        }
        all.removeIf(w -> broken(p, w, night) != 0);
        return all;
    }

    private Walk walkOf(int kind, int room, int other) {
        if (!s.isRoom(room)) {
            return null;
        }
        if (kind == 1 && other >= 0 && other < 4 || kind == 3 && other == 0) {
            return new Walk(kind, room, other);
        }
        if (kind == 2 && s.isRoom(other) && other != room) {
            return new Walk(2, Math.min(room, other), Math.max(room, other));
        }
        return null;
    }

    // ---- the face

    int feed(int a, int b, int c, int d, int e) {
        if (tape.length() > 380) {
            return -1;
        }
        for (int n : new int[] {a, b, c, d, e}) {
            for (int k = 3; k >= 0; k--) {
                tape.append((char) (n >>> 8 * k & 255));
            }
        }
        return tape.length();
    }

    int end(int n) {
        if (n < 0 || n > tape.length()) {
            return -1;
        }
        tape.setLength(n);
        return n;
    }

    int palace() {
        text = tape.toString();
        tape.setLength(0);
        try {
            State n = readPalace();
            n.x = s.x;
            s = n;
            return s.rooms();
        } catch (Fault f) {
            return -2 - f.number;
        }
    }

    int rule() {
        if (rules.size() == 6) {
            return -1;
        }
        text = tape.toString();
        tape.setLength(0);
        try {
            rules.add(readRule());
            return rules.size() - 1;
        } catch (Fault f) {
            return -2 - f.number;
        }
    }

    int force(int rule) {
        if (!s.told || rule < -1 || rule >= rules.size()) {
            return -2;
        }
        int was = s.force;
        s.force = rule;
        return was;
    }

    int law(int law) {
        if (!s.told || law < 0 || law > 2) {
            return -2;
        }
        int was = s.law;
        s.law = law;
        return was;
    }

    int room(int room, int what) {
        if (!s.isRoom(room) || what < 0 || what > 8) {
            return -1;
        }
        if (what == 0) {
            return 4 * s.plan.y[room] + s.plan.x[room];
        }
        if (what == 1) {
            return s.plan.turn[room];
        }
        if (what < 6) {
            return lies(s, s.plan, room, what - 2);
        }
        if (what == 6) {
            return s.fixed.contains(room) ? 1 : 0;
        }
        int bits = 0;
        if (what == 7) {
            return keysIn(room);
        }
        for (int p = 0; p < s.people.size(); p++) {
            bits += s.people.get(p) == room ? 1 << p : 0;
        }
        return bits;
    }

    private int keysIn(int room) {
        int bits = 0;
        for (Map.Entry<Integer, Integer> e : s.keys.entrySet()) {
            bits += e.getValue() == room ? 1 << e.getKey() : 0;
        }
        return bits;
    }

    int at(int x, int y) {
        return s.onFloor(x, y) ? s.plan.roomAt(x, y) : -2;
    }

    int sleeps(int person) {
        return person >= 0 && person < s.people.size() ? s.people.get(person) : -1;
    }

    int mismatch(int what) {
        if (!s.told || what < 0 || what > 3) {
            return -1;
        }
        List<int[]> all = mismatches(s, s.plan);
        if (what == 0) {
            return all.size();
        }
        return all.isEmpty() ? -2 : all.get(0)[what - 1];
    }

    int brick(int room, int side, int sort) {
        if (!s.isRoom(room) || side < 0 || side > 3 || sort < 0 || sort > 6) {
            return -2;
        }
        int was = lies(s, s.plan, room, side);
        if (was == sort) {
            return -2;
        }
        s.sides.get(room)[(side + 4 - s.plan.turn[room]) % 4] = sort;
        s.past.clear();
        return was;
    }

    int lay(int key, int room) {
        if (!s.told || key < 1 || key > 4 || room != -1 && !s.isRoom(room)) {
            return -2;
        }
        int was = s.keys.getOrDefault(key, -1);
        if (was == room) {
            return -2;
        }
        s.keys.put(key, room);
        s.past.clear();
        return was;
    }

    int bed(int person, int room) {
        if (person < 0 || person >= s.people.size() || !s.isRoom(room) || s.people.get(person) == room) {
            return -2;
        }
        s.past.clear();
        return s.people.set(person, room);
    }

    boolean fix(int room, boolean is) {
        if (!s.isRoom(room) || s.fixed.contains(room) == is) {
            return false;
        }
        if (is) {
            s.fixed.add(room);
        } else {
            s.fixed.remove(room);
        }
        s.past.clear();
        return true;
    }

    private void night(Plan next) {
        s.past.addLast(s.plan);
        if (s.past.size() > 20) {
            s.past.removeFirst();
        }
        s.plan = next;
        s.nights++;
    }

    int walk(int kind, int room, int other) {
        Walk w = walkOf(kind, room, other);
        if (w == null) {
            return -1;
        }
        int law = broken(s.plan, w, s.nights);
        if (law != 0) {
            return -2 - law;
        }
        night(gone(s.plan, w));
        return s.nights;
    }

    int rest() {
        if (!s.told) {
            return -1;
        }
        night(s.plan.copy());
        return s.nights;
    }

    int undo() {
        if (s.past.isEmpty()) {
            return -2;
        }
        s.plan = s.past.removeLast();
        s.nights--;
        return s.past.size();
    }

    int can() {
        return s.told ? may(s.plan, s.nights).size() : -1;
    }

    int choice(int k, int what) {
        if (!s.told || what < 0 || what > 3) {
            return -1;
        }
        List<Walk> all = may(s.plan, s.nights);
        if (k < 0 || k >= all.size()) {
            return -1;
        }
        return what == 3 ? mismatches(s, gone(s.plan, all.get(k))).size() : part(all.get(k), what);
    }

    private static int part(Walk w, int what) {
        return new int[] {w.kind, w.room, w.other}[what];
    }

    int draft(int draft) {
        if (!s.told || draft < 0 || draft > 3) {
            return -1;
        }
        s.drafts.put(draft, s.plan.copy());
        return mismatches(s, s.plan).size();
    }

    boolean redraw(int draft, int kind, int room, int other) {
        Plan d = s.drafts.get(draft);
        Walk w = walkOf(kind, room, other);
        if (d == null || w == null) {
            return false;
        }
        Plan n = gone(d, w);
        if (kind == 1 && (!s.onFloor(n.x[room], n.y[room]) || d.roomAt(n.x[room], n.y[room]) >= 0)) {
            return false;
        }
        s.drafts.put(draft, n);
        return true;
    }

    int drafted(int draft, int room, int what) {
        Plan d = s.drafts.get(draft);
        if (d == null || !s.isRoom(room) || what < 0 || what > 1) {
            return -1;
        }
        return what == 0 ? 4 * d.y[room] + d.x[room] : d.turn[room];
    }

    /** The ROW to a DRAFT; null: it can't be; a row of one null: UNKNOWN. */
    private List<Walk> way(Plan wanted) {
        List<Walk> none = new ArrayList<>();
        if (s.plan.key().equals(wanted.key())) {
            return none;
        }
        Map<String, List<Walk>> seen = new HashMap<>();
        ArrayDeque<Plan> queue = new ArrayDeque<>();
        seen.put(s.plan.key(), none);
        queue.add(s.plan);
        while (!queue.isEmpty()) {
            Plan p = queue.removeFirst();
            List<Walk> here = seen.get(p.key());
            for (Walk w : may(p, s.nights)) {
                Plan n = gone(p, w);
                List<Walk> there = new ArrayList<>(here);
                there.add(w);
                if (n.key().equals(wanted.key())) {
                    return there;
                }
                if (!seen.containsKey(n.key())) {
                    if (seen.size() == 1500) {
                        none.add(null);
                        return none;
                    }
                    seen.put(n.key(), there);
                    queue.addLast(n);
                }
            }
        }
        return null;
    }

    int nights(int draft) {
        if (!s.drafts.containsKey(draft)) {
            return -1;
        }
        List<Walk> row = way(s.drafts.get(draft));
        if (row == null) {
            return -2;
        }
        return row.contains(null) ? -3 : row.size();
    }

    int row(int draft, int k, int what) {
        if (!s.drafts.containsKey(draft) || k < 0 || what < 0 || what > 2) {
            return -1;
        }
        List<Walk> row = way(s.drafts.get(draft));
        if (row == null) {
            return -2;
        }
        if (row.contains(null)) {
            return -3;
        }
        return k < row.size() ? part(row.get(k), what) : -2;
    }

    int marks(int draft) {
        Plan d = s.drafts.get(draft);
        if (d == null) {
            return -1;
        }
        int marks = 0;
        for (int r = 0; r < s.rooms(); r++) {
            boolean elsewhere = d.x[r] != s.plan.x[r] || d.y[r] != s.plan.y[r];
            boolean turned = d.turn[r] != s.plan.turn[r];
            if (s.fixed.contains(r) && (elsewhere || turned)) {
                marks |= 1;
            }
            if ((s.ways & 4) == 0 && turned) {
                marks |= 2;
            }
            if ((s.ways & 3) == 0 && elsewhere) {
                marks |= 4;
            }
        }
        if ((s.ways & 2) == 0 && s.columns * s.rows - s.rooms() == 1) {
            int changes = 0;
            int[] empty = emptyOf(s.plan);
            int[] goal = emptyOf(d);
            // The things are brought to their places one by one, each by one change of places.
            Plan p = s.plan.copy();
            int[] hole = empty.clone();
            for (int r = 0; r < s.rooms(); r++) {
                if (p.x[r] == d.x[r] && p.y[r] == d.y[r]) {
                    continue;
                }
                int other = p.roomAt(d.x[r], d.y[r]);
                if (other >= 0) {
                    p.x[other] = p.x[r];
                    p.y[other] = p.y[r];
                } else {
                    hole[0] = p.x[r];
                    hole[1] = p.y[r];
                }
                p.x[r] = d.x[r];
                p.y[r] = d.y[r];
                changes++;
            }
            int away = Math.abs(empty[0] - goal[0]) + Math.abs(empty[1] - goal[1]);
            if (changes % 2 != away % 2) {
                marks |= 8;
            }
        }
        return marks;
    }

    private int[] emptyOf(Plan p) {
        for (int y = 0; y < s.rows; y++) {
            for (int x = 0; x < s.columns; x++) {
                if (p.roomAt(x, y) < 0) {
                    return new int[] {x, y};
                }
            }
        }
        throw new IllegalStateException();
    }

    private int tries;

    int floors() {
        if (!s.told) {
            return -1;
        }
        tries = 0;
        Plan p = s.plan.copy();
        for (int r = 0; r < s.rooms(); r++) {
            if (!s.fixed.contains(r)) {
                p.x[r] = -9;
                p.y[r] = -9;
            }
        }
        int n = layFrom(p, 0);
        return tries > 20000 ? -3 : n;
    }

    private int layFrom(Plan p, int room) {
        if (tries > 20000) {
            return 0;
        }
        if (room == s.rooms()) {
            return mismatches(s, p).isEmpty() ? 1 : 0;
        }
        if (s.fixed.contains(room)) {
            return layFrom(p, room + 1);
        }
        int found = 0;
        for (int y = 0; y < s.rows; y++) {
            for (int x = 0; x < s.columns; x++) {
                if (p.roomAt(x, y) >= 0) {
                    continue;
                }
                for (int t = 0; t < 4; t++) {
                    if ((s.ways & 4) == 0 && t != s.plan.turn[room]) {
                        continue;
                    }
                    tries++;
                    Plan n = p.copy();
                    n.x[room] = x;
                    n.y[room] = y;
                    n.turn[room] = t;
                    if (goesOn(n)) {
                        found += layFrom(n, room + 1);
                    }
                }
            }
        }
        return found;
    }

    private boolean goesOn(Plan p) {
        for (int[] m : mismatches(s, p)) {
            int ox = m[0] + DX[m[2]];
            int oy = m[1] + DY[m[2]];
            // A door towards a CELL that is still EMPTY may yet meet one.
            if (!s.onFloor(ox, oy) || p.roomAt(ox, oy) >= 0) {
                return false;
            }
        }
        return true;
    }

    /** The ROOM through the door over a side, with KEYS; -1: none. */
    private int through(int room, int side, int keys) {
        int o = s.plan.roomAt(s.plan.x[room] + DX[side], s.plan.y[room] + DY[side]);
        if (o < 0) {
            return -1;
        }
        int a = lies(s, s.plan, room, side);
        int b = lies(s, s.plan, o, (side + 2) % 4);
        if (kind(a) != 1 || kind(b) != 1) {
            return -1;
        }
        if (a > 2 && (keys & 1 << a - 2) == 0 || b > 2 && (keys & 1 << b - 2) == 0) {
            return -1;
        }
        return o;
    }

    int steps(int from, int to) {
        if (!s.isRoom(from) || !s.isRoom(to)) {
            return -1;
        }
        Set<List<Integer>> now = new HashSet<>();
        Set<List<Integer>> seen = new HashSet<>();
        now.add(List.of(from, keysIn(from)));
        for (int step = 0; !now.isEmpty(); step++) {
            Set<List<Integer>> next = new HashSet<>();
            for (List<Integer> spot : now) {
                if (spot.get(0) == to) {
                    return step;
                }
                seen.add(spot);
                for (int side = 0; side < 4; side++) {
                    int o = through(spot.get(0), side, spot.get(1));
                    if (o >= 0) {
                        List<Integer> n = List.of(o, spot.get(1) | keysIn(o));
                        if (!seen.contains(n)) {
                            next.add(n);
                        }
                    }
                }
            }
            now = next;
        }
        return -2;
    }

    int reach(int room, int what) {
        if (!s.isRoom(room) || what < 0 || what > 1) {
            return -1;
        }
        Set<Integer> in = new HashSet<>(Set.of(room));
        int keys = keysIn(room);
        boolean more = true;
        while (more) {
            more = false;
            for (int r : new ArrayList<>(in)) {
                for (int side = 0; side < 4; side++) {
                    int o = through(r, side, keys);
                    if (o >= 0 && in.add(o)) {
                        keys |= keysIn(o);
                        more = true;
                    }
                }
            }
        }
        int bits = 0;
        for (int r : in) {
            bits += 1 << r;
        }
        return what == 0 ? bits : keys;
    }

    int gossip(int room, int n) {
        if (!s.isRoom(room) || n < 0 || n > 16) {
            return -1;
        }
        Set<Integer> heard = new HashSet<>(Set.of(room));
        for (int k = 0; k < n; k++) {
            for (int r : new ArrayList<>(heard)) {
                for (int side = 0; side < 4; side++) {
                    int o = through(r, side, 0);
                    if (o >= 0) {
                        heard.add(o);
                    }
                }
            }
        }
        return heard.size();
    }

    int almanac(int kind, int room, int other) {
        if (kind == -1) {
            s.almanac.clear();
            return 0;
        }
        Walk w = walkOf(kind, room, other);
        if (w == null || s.almanac.size() == 10) {
            return -2;
        }
        s.almanac.add(w);
        return s.almanac.size();
    }

    private Plan live(int nights, int[] leftOut) {
        Plan p = s.plan;
        for (int k = 0; k < nights; k++) {
            if (broken(p, s.almanac.get(k), s.nights + k) == 0) {
                p = gone(p, s.almanac.get(k));
            } else {
                leftOut[0]++;
            }
        }
        return p;
    }

    int would(int room, int nights, int what) {
        if (!s.isRoom(room) || nights < 0 || nights > s.almanac.size() || what < 0 || what > 2) {
            return -1;
        }
        int[] leftOut = new int[1];
        Plan p = live(nights, leftOut);
        return what == 0 ? 4 * p.y[room] + p.x[room] : what == 1 ? p.turn[room] : leftOut[0];
    }

    int follow() {
        if (!s.told) {
            return -1;
        }
        int out = 0;
        for (Walk w : s.almanac) {
            if (broken(s.plan, w, s.nights) == 0) {
                night(gone(s.plan, w));
            } else {
                night(s.plan.copy());
                out++;
            }
        }
        s.almanac.clear();
        return out;
    }

    int wish(int person, int nights, int x, int y) {
        if (person == -1) {
            s.wishes.clear();
            return 0;
        }
        if (person < 0 || person >= s.people.size() || nights < 0 || nights > 10 || !s.onFloor(x, y)
                || s.wishes.size() == 12) {
            return -2;
        }
        s.wishes.add(new int[] {person, nights, x, y});
        return s.wishes.size();
    }

    private List<List<Integer>> allBeds() {
        List<List<Integer>> all = new ArrayList<>();
        Plan[] plans = new Plan[11];
        for (int n = 0; n <= s.almanac.size(); n++) {
            plans[n] = live(n, new int[1]);
        }
        addBeds(all, new ArrayList<>(), plans);
        return all;
    }

    private void addBeds(List<List<Integer>> all, List<Integer> row, Plan[] plans) {
        if (row.size() == s.people.size()) {
            all.add(new ArrayList<>(row));
            return;
        }
        int person = row.size();
        for (int r = 0; r < s.rooms(); r++) {
            boolean so = !row.contains(r);
            for (int[] w : s.wishes) {
                if (w[0] == person) {
                    so &= w[1] <= s.almanac.size() && plans[w[1]].x[r] == w[2] && plans[w[1]].y[r] == w[3];
                }
            }
            if (so) {
                row.add(r);
                addBeds(all, row, plans);
                row.remove(row.size() - 1);
            }
        }
    }

    int beds(int what) {
        if (!s.told || what < 0 || what > 6) {
            return -1;
        }
        List<List<Integer>> all = allBeds();
        if (what == 0) {
            return all.size();
        }
        return all.isEmpty() || what > s.people.size() ? -2 : all.get(0).get(what - 1);
    }

    int almost(int person, int room) {
        if (person < 0 || person >= s.people.size() || !s.isRoom(room)) {
            return -1;
        }
        int n = 0;
        for (List<Integer> row : allBeds()) {
            n += row.get(person) == room ? 1 : 0;
        }
        return n;
    }

    int guards(int what) {
        if (!s.told || what < 0 || what > 1) {
            return -1;
        }
        for (int size = 0; size <= s.rooms(); size++) {
            for (int set = 0; set < 1 << s.rooms(); set++) {
                if (Integer.bitCount(set) == size && guarded(set)) {
                    return what == 0 ? size : set;
                }
            }
        }
        throw new IllegalStateException();
    }

    private boolean guarded(int set) {
        for (int r = 0; r < s.rooms(); r++) {
            for (int side = 0; side < 4; side++) {
                int o = through(r, side, -1);
                if (o >= 0 && (set & 1 << r) == 0 && (set & 1 << o) == 0) {
                    return false;
                }
            }
        }
        return true;
    }

    int drift(int what) {
        if (!s.told || what < 0 || what > 2) {
            return -1;
        }
        int sum = 0;
        int most = -1;
        long mostDoors = -1;
        for (int r = 0; r < s.rooms(); r++) {
            if (Arrays.stream(s.sides.get(r)).anyMatch(k -> k > 2)) {
                int[] away = {s.plan.x[r], s.plan.y[r], s.columns - 1 - s.plan.x[r], s.rows - 1 - s.plan.y[r]};
                sum += Arrays.stream(away).min().getAsInt();
            }
            long doors = Arrays.stream(s.sides.get(r)).filter(k -> kind(k) == 1).count();
            if (doors > mostDoors) {
                mostDoors = doors;
                most = r;
            }
        }
        if (what == 0) {
            return sum;
        }
        if (most < 0) {
            return -2;
        }
        int meet = 0;
        for (int side = 0; side < 4; side++) {
            meet += through(most, side, -1) >= 0 ? 1 : 0;
        }
        return what == 1 ? most : meet;
    }

    int woke(int room, int x, int y) {
        if (room == -1) {
            s.woken.clear();
            return 0;
        }
        if (!s.isRoom(room) || !s.onFloor(x, y) || s.woken.size() == 8) {
            return -2;
        }
        s.woken.add(new int[] {room, x, y});
        return s.woken.size();
    }

    private void rows(Plan p, int n, List<Walk> walks, List<Integer> places, List<List<Walk>> all, List<List<Integer>> at) {
        if (n == 0) {
            boolean so = true;
            for (int[] w : s.woken) {
                so &= p.x[w[0]] == w[1] && p.y[w[0]] == w[2];
            }
            if (so) {
                all.add(new ArrayList<>(walks));
                at.add(new ArrayList<>(places));
            }
            return;
        }
        int k = 0;
        for (Walk w : may(p, s.nights)) {
            walks.add(w);
            places.add(k++);
            rows(gone(p, w), n - 1, walks, places, all, at);
            walks.remove(walks.size() - 1);
            places.remove(places.size() - 1);
        }
    }

    int how(int n, int what) {
        if (!s.told || n < 0 || n > 3 || what < 0 || what > 6) {
            return -1;
        }
        List<List<Walk>> all = new ArrayList<>();
        List<List<Integer>> at = new ArrayList<>();
        rows(s.plan, n, new ArrayList<>(), new ArrayList<>(), all, at);
        if (what == 0) {
            return all.size();
        }
        if (what < 4) {
            int sum = 0;
            for (List<Walk> row : all) {
                for (Walk w : row) {
                    sum += w.kind == what ? 1 : 0;
                }
            }
            return sum;
        }
        return all.isEmpty() || what - 4 >= n ? -2 : at.get(0).get(what - 4);
    }

    /** Fewest MISMATCHES with one ROOM more, and its sides. */
    private int[] build(int x, int y) {
        int[] best = null;
        for (int k = 0; k < 81; k++) {
            int[] side = {k / 27, k / 9 % 3, k / 3 % 3, k % 3};
            State n = s.copy();
            n.sides.add(side);
            int r = n.rooms();
            n.plan.x = Arrays.copyOf(n.plan.x, r);
            n.plan.y = Arrays.copyOf(n.plan.y, r);
            n.plan.turn = Arrays.copyOf(n.plan.turn, r);
            n.plan.x[r - 1] = x;
            n.plan.y[r - 1] = y;
            int m = mismatches(n, n.plan).size();
            if (best == null || m < best[0]) {
                best = new int[] {m, side[0], side[1], side[2], side[3]};
            }
        }
        return best;
    }

    int built(int x, int y, int what) {
        if (!s.onFloor(x, y) || s.plan.roomAt(x, y) >= 0 || what < 0 || what > 4) {
            return -1;
        }
        return build(x, y)[what];
    }

    int best() {
        if (!s.told) {
            return -1;
        }
        int best = -2;
        int fewest = Integer.MAX_VALUE;
        for (int y = 0; y < s.rows; y++) {
            for (int x = 0; x < s.columns; x++) {
                if (s.plan.roomAt(x, y) < 0 && build(x, y)[0] < fewest) {
                    fewest = build(x, y)[0];
                    best = 4 * y + x;
                }
            }
        }
        return best;
    }

    int seed(int x) {
        if (x < 0) {
            return -1;
        }
        int was = s.x;
        s.x = x;
        return was;
    }

    int drawn(int m, int n, int one, int other, int what) {
        if (m < 1 || m > 10 || n < 1 || n > 60 || what < 0 || what > 2 || !s.isRoom(one) || !s.isRoom(other)
                || one == other) {
            return -1;
        }
        int[] sums = new int[3];
        java.math.BigInteger x = java.math.BigInteger.valueOf(s.x);
        for (int k = 0; k < m; k++) {
            Plan p = s.plan;
            for (int night = 0; night < n; night++) {
                List<Walk> all = may(p, s.nights + night);
                if (all.isEmpty()) {
                    continue;
                }
                x = x.multiply(java.math.BigInteger.valueOf(1103515245)).add(java.math.BigInteger.valueOf(12345))
                        .mod(java.math.BigInteger.ONE.shiftLeft(31));
                p = gone(p, all.get(x.intValue() / 65536 % all.size()));
                sums[2]++;
            }
            sums[0] += mismatches(s, p).size();
            State then = s.copy();
            then.plan = p;
            State keep = s;
            s = then;
            for (int side = 0; side < 4; side++) {
                sums[1] += through(one, side, -1) == other ? 1 : 0;
            }
            s = keep;
        }
        return sums[what];
    }

    int count(int what) {
        int drafts = 0;
        for (int d : s.drafts.keySet()) {
            drafts += 1 << d;
        }
        int[] all = {s.columns, s.rows, s.rooms(), s.people.size(), s.ways, s.law, rules.size(), s.force, s.nights,
            s.past.size(), s.almanac.size(), s.wishes.size(), s.woken.size(), s.x, tape.length(),
            s.columns * s.rows - s.rooms(), drafts};
        return what >= 0 && what < all.length ? all[what] : -1;
    }

    int image(int k) {
        if (k < 0 || k > 3) {
            return -1;
        }
        images[k] = s.copy();
        return s.nights;
    }

    int back(int k) {
        if (k < 0 || k > 3 || images[k] == null) {
            return -1;
        }
        s = images[k].copy();
        return s.nights;
    }
}

import java.util.ArrayList;
import java.util.List;

/** Brings texts onto a TAPE. */
final class Texts {
    private Texts() {
    }

    /** The arguments of the feeds that bring a text, twenty bytes each, the rest zeros. */
    static List<int[]> feeds(String text) {
        List<int[]> all = new ArrayList<>();
        for (int from = 0; from < text.length(); from += 20) {
            int[] five = new int[5];
            for (int i = 0; i < 20; i++) {
                int sign = from + i < text.length() ? text.charAt(from + i) & 255 : 0;
                five[i / 4] |= sign << 24 - 8 * (i % 4);
            }
            all.add(five);
        }
        return all;
    }

    static void onTape(WalkingRooms rooms, String text) {
        rooms.end(0);
        for (int[] f : feeds(text)) {
            rooms.feed(f[0], f[1], f[2], f[3], f[4]);
        }
        rooms.end(text.length());
    }

    static int palace(WalkingRooms rooms, String text) {
        onTape(rooms, text);
        return rooms.palace();
    }

    static int rule(WalkingRooms rooms, String text) {
        onTape(rooms, text);
        return rooms.rule();
    }
}

/** All that can be asked of an object, as a text. It uses the object up: NIGHTS are undone, IMAGES gone back to. */
final class Snapshot {
    private final WalkingRooms x;
    private final StringBuilder told = new StringBuilder();

    private Snapshot(WalkingRooms x) {
        this.x = x;
    }

    /** Of an object with at most four ROOMS, 40 calls at most made before and some six NIGHTS to be undone. */
    static String of(WalkingRooms x) {
        Snapshot s = new Snapshot(x);
        s.counts();
        s.rooms();
        s.questions();
        s.drafts();
        s.nights();
        return s.told.append(" rule ").append(x.rule()).toString();
    }

    /** The same, and of all IMAGES what they keep. */
    static String withImages(WalkingRooms x) {
        Snapshot s = new Snapshot(x);
        s.counts();
        for (int k = 0; k < 4; k++) {
            s.told.append(" image ").append(k).append(':').append(x.back(k));
            if (x.back(k) != WalkingRooms.NONE) {
                s.counts();
                s.rooms();
                s.nights();
            }
        }
        return s.told.toString();
    }

    private void add(int answer) {
        told.append(' ').append(answer);
    }

    private void counts() {
        told.append(" count");
        for (int what = 0; what <= 16; what++) {
            add(x.count(what));
        }
    }

    private void rooms() {
        for (int room = 0; room < x.count(2); room++) {
            told.append(" room");
            for (int what = 0; what <= 8; what++) {
                add(x.room(room, what));
            }
        }
        told.append(" sleeps");
        for (int person = 0; person < x.count(3); person++) {
            add(x.sleeps(person));
        }
        told.append(" can");
        add(x.can());
    }

    private void questions() {
        told.append(" would");
        for (int room = 0; room < x.count(2); room++) {
            add(x.would(room, x.count(10), 0));
            add(x.would(room, x.count(10), 1));
        }
        told.append(" beds");
        for (int what = 0; what <= 2; what++) {
            add(x.beds(what));
        }
        told.append(" how");
        add(x.how(0, 0));
        add(x.how(1, 0));
        told.append(" drawn");
        add(x.drawn(1, 2, 0, 1, 0));
        add(x.drawn(1, 2, 0, 1, 2));
    }

    private void drafts() {
        for (int draft = 0; draft < 4; draft++) {
            told.append(" draft");
            for (int room = 0; room < x.count(2); room++) {
                add(x.drafted(draft, room, 0));
                add(x.drafted(draft, room, 1));
            }
        }
    }

    private void nights() {
        told.append(" undone");
        for (int night = 0; night < 21 && x.count(9) > 0; night++) {
            add(x.undo());
            for (int room = 0; room < x.count(2); room++) {
                add(x.room(room, 0));
                add(x.room(room, 1));
            }
        }
        add(x.count(8));
    }
}

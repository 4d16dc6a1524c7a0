import java.util.ArrayList;
import java.util.List;

/** What the tests that go by the document's sentences have in common. */
final class Hours {
    static final int UNKNOWN = -1, OUTSIDE = -2, STATE = -3, FULL = -4, NONE = -9;
    static final int LEAST = Integer.MIN_VALUE, MOST = Integer.MAX_VALUE;
    static final long FACTOR = 6364136223846793005L, ADDEND = 1442695040888963407L;

    /** Four candles, four guests: no part more can be told. */
    static final String LONGEST = "Eabcd-abcdabcC0042C0463C0811C0221Ga109Gb209Gd303Gc119";

    private Hours() { }

    interface Call {
        long of(TallowHours t);
    }

    static TallowHours written(String text) {
        TallowHours t = new TallowHours();
        write(t, text);
        return t;
    }

    static void write(TallowHours t, String text) {
        for (int i = 0; i < text.length(); i++) t.write(text.charAt(i));
    }

    static int faultOf(String text) { return written(text).fault(); }

    static TallowHours party(String text) {
        TallowHours t = written(text);
        if (t.party() < 0) throw new IllegalStateException("no party: " + text);
        return t;
    }

    static int retold(TallowHours t, String text) {
        t.wipe();
        write(t, text);
        return t.party();
    }

    static TallowHours stepped(TallowHours t, int steps) {
        for (int i = 0; i < steps; i++) t.step();
        return t;
    }

    static TallowHours lit(TallowHours t, int... candles) {
        for (int candle : candles) t.light(candle);
        return t;
    }

    static TallowHours seen(TallowHours t, int... moments) {
        for (int moment : moments) t.see(moment);
        return t;
    }

    /**
     * In the midst of an evening: candle 0 is out with 2 inches, 1 is trimmed to 4, 2 is burnt, 3 is whole;
     * slot 0 is kept, two moments are seen, the text has a letter too much.
     */
    static TallowHours midst() {
        TallowHours t = party(LONGEST);
        t.trim(1, 2);
        t.light(0);
        t.step();
        t.keep(0);
        t.light(2);
        t.step();
        t.out(0);
        t.see(0);
        t.see(1);
        t.seed(77);
        t.write('x');
        return t;
    }

    /** Nothing more goes in: 64 letters, 6 seen, step 20; a candle still burns. */
    static TallowHours brimful() {
        TallowHours t = party("EaaC0021C0029Ga109");
        stepped(t, 19);
        t.light(0);
        t.step();
        for (int i = 0; i < 64; i++) t.write('E');
        return seen(t, 0, 0, 0, 0, 0, 0);
    }

    /** All that can be known of an object, down to its first act and its slots; it is used up by that. */
    static List<Long> all(TallowHours t) {
        List<Long> found = new ArrayList<>();
        found.add((long) t.fault());
        for (int place = 0; place <= 12; place++) found.add((long) t.moment(place));
        for (int l = 1; l <= 6; l++) found.add((long) t.from(l));
        evening(t, found);
        for (int i = 0; i <= 16; i++) {
            found.add((long) t.undo());
            for (int what = 4; what <= 8; what++) found.add((long) t.count(what));
        }
        for (int slot = 0; slot <= 1; slot++) {
            found.add((long) t.again(slot));
            evening(t, found);
        }
        found.add(t.seed(0));
        found.add((long) t.wipe());
        return found;
    }

    private static void evening(TallowHours t, List<Long> found) {
        for (int what = 0; what <= 9; what++) found.add((long) t.count(what));
        for (int i = 0; i <= 3; i++) {
            for (int what = 0; what <= 3; what++) found.add((long) t.candle(i, what));
            for (int what = 0; what <= 5; what++) found.add((long) t.guest(i, what));
        }
    }
}

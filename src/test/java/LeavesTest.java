import java.lang.reflect.Method;
import java.lang.reflect.Modifier;
import java.util.Arrays;
import java.util.List;
import java.util.Set;
import java.util.TreeSet;
import java.util.function.Supplier;

/**
 * Of each call that is answered: which parts of an object are others behind it, and that all other parts stay.
 * (RefusalTest has the same of what is refused.) A part is looked at in an object of its own, made by the same calls,
 * so that looking may use it up.
 */
public final class LeavesTest extends Checks {
    private static final String[] PARTS = {"rows", "tape", "fault", "told", "muches", "open", "rider", "meter", "acts",
        "image 0", "image 1", "trace", "status"};
    private static final Set<String> tried = new TreeSet<>();

    public static void main(String[] args) {
        rows();
        tapeAndTown();
        acts();
        undone();
        toldOfTheTown();
        foretold();
        images();
        asked();
        eachCallWasTried();
        end();
    }

    // ---- objects

    /**
     * AT CORNER 2, STEP 2, MOOD 8, METER 7; MUCH of CORNER 2 is 2, STREET 6 is shut; five ACTS, two IMAGES (the second
     * of another TOWN), ROWS 0, 1, 2, 3, 7, bytes on the tape, FAULT 2, a TRACE, status 4.
     */
    private static MoodFare made() {
        MoodFare x = new MoodFare();
        read(x, "t5,1;j2,2;g1,1;x0,1;x1,0;");
        x.image(1);
        read(x, "t2,4;j1,1;l2,2;h3,3;g4,4;r5,5;x0,1;x1,2;x2,3;x3,4;x4,0;x2,0;x0,3;");
        read(x, "t0");
        x.ride(0);
        x.image(0);
        x.lesson(2, 2);
        x.street(6, 0);
        x.reset();
        x.ride(1);
        lay(x, 0, 2, 3, 4, 0, 1);
        lay(x, 1, 0, 1, 2, 3, 4, 0, 1, 2);
        x.row(2, 0, 0);
        x.row(3, 0, 3);
        x.set(3, 1, 2);
        x.row(7, 1, 40);
        x.ask(1, 0);
        feedAll(x, "t1,3;j");
        x.row(0, 0, -1);
        return x;
    }

    private static MoodFare undone(int times) {
        MoodFare x = made();
        for (int n = 0; n < times; n++) x.undo();
        return x;
    }

    // ---- parts

    private static String part(String name, MoodFare x) {
        switch (name) {
            case "rows": return rowsOf(x);
            case "tape": return tapeOf(x);
            case "fault": return "" + x.fault();
            case "told": return toldOf(x);
            case "muches": return muchesOf(x);
            case "open": return openOf(x);
            case "rider": return counts(x, 3, 4, 5);
            case "meter": return counts(x, 8);
            case "acts": return actsOf(x);
            case "image 0": return imageOf(x, 0);
            case "image 1": return imageOf(x, 1);
            case "trace": return traceOf(x);
            default: return "" + x.status();
        }
    }

    /** ITEMS are read as STREETS of HUB, a LANE by how many bits it keeps, or by a ROW that can come to it. */
    private static String rowsOf(MoodFare x) {
        StringBuilder b = new StringBuilder(counts(x, 0));
        x.town();
        read(x, HUB);
        for (int row = 0; row < 8; row++) {
            b.append(" row ").append(row).append(':');
            int is = 0;
            for (int i = 0; i <= 40 && is != NULL && is != PLACE; i++) {
                is = item(x, row, i);
                b.append(' ').append(is);
            }
        }
        for (int row = 7; row > 0; row--) {
            for (int lane = 0; lane < 3; lane++) {
                int kept = x.row((row + 1) % 8, lane, 0);
                b.append(' ').append(kept).append(x.copy((row + 1) % 8, 0, row, 0, 0));
            }
            b.append(" had ").append(x.drop(row));
        }
        return b.append(" 0 keeps ").append(x.set(0, 0, 70000)).toString();
    }

    private static String tapeOf(MoodFare x) {
        StringBuilder b = new StringBuilder(counts(x, 7));
        feedAll(x, "3,3;");
        return b.append(' ').append(x.town()).append(' ').append(counts(x, 1, 5)).append(' ').append(x.corner(0, 0)).toString();
    }

    /** What a text told: CORNERS but for MUCH, STREETS, RATE. */
    private static String toldOf(MoodFare x) {
        StringBuilder b = new StringBuilder(counts(x, 1, 2));
        for (int c = 0; c < 6; c++) {
            b.append(' ').append(x.kind(c)).append(' ').append(x.corner(c, 1));
            b.append(' ').append(x.corner(c, 2)).append(' ').append(x.corner(c, 3));
        }
        for (int s = 0; s < 8; s++) b.append(' ').append(x.way(s, 0)).append(' ').append(x.way(s, 1));
        return b.append(" rate ").append(rateOf(x)).toString();
    }

    /** What a MOOD that is another by one would cost, without FEE; lessons are given until there is one. */
    private static int rateOf(MoodFare x) {
        for (int s = 0; s < x.count(2); s++) {
            if (x.way(s, 0) != x.count(4)) continue;
            x.street(s, 1);
            for (int much = 0; much <= 9; much++) {
                x.lesson(x.way(s, 1), much);
                int moved = Math.abs(x.would(s, 0) - x.count(5));
                if (moved > 0) return (x.would(s, 1) - x.corner(x.way(s, 1), 1)) / moved;
            }
        }
        return NONE;
    }

    private static String muchesOf(MoodFare x) {
        StringBuilder b = new StringBuilder();
        for (int c = 0; c < 6; c++) b.append(x.corner(c, 0)).append(' ');
        return b.toString();
    }

    private static String openOf(MoodFare x) {
        StringBuilder b = new StringBuilder(counts(x, 9));
        for (int s = 0; s < 8; s++) b.append(' ').append(x.way(s, 2));
        return b.toString();
    }

    private static String actsOf(MoodFare x) {
        StringBuilder b = new StringBuilder(counts(x, 6));
        for (int n = 0; n < 7; n++) {
            b.append(" undone ").append(x.undo()).append(' ').append(counts(x, 3, 4, 5, 8, 9)).append(' ').append(muchesOf(x));
        }
        return b.toString();
    }

    private static String imageOf(MoodFare x, int k) {
        if (x.restore(k) != 1) return "none";
        StringBuilder b = new StringBuilder(counts(x, 3, 4, 5, 8));
        return b.append(' ').append(muchesOf(x)).append(openOf(x)).append(' ').append(toldOf(x)).toString();
    }

    private static String traceOf(MoodFare x) {
        StringBuilder b = new StringBuilder();
        for (int i = -1; i < 17; i++) b.append(x.trace(i)).append(' ');
        return b.toString();
    }

    // ---- checks

    /** By the call these parts become others, each other part stays. The call is not refused, nor is anything found. */
    private static void changes(Supplier<MoodFare> first, String parts, String name, int... args) {
        tried.add(name);
        String call = told(name, args);
        int answer = call(first.get(), name, args);
        due(call + " is answered: " + answer, answer >= NONE ? 1 : 0, 1);
        List<String> others = Arrays.asList(parts.split(", "));
        for (String one : PARTS) {
            MoodFare x = first.get();
            call(x, name, args);
            String was = part(one, first.get()), is = part(one, x);
            if (others.contains(one)) due(call + " makes another: " + one, was.equals(is) ? 0 : 1, 1);
            else same(call + " leaves: " + one, is, was);
        }
        for (String one : others) due("a part: " + one, one.isEmpty() || Arrays.asList(PARTS).contains(one) ? 1 : 0, 1);
    }

    private static void changes(String parts, String name, int... args) {
        changes(LeavesTest::made, parts, name, args);
    }

    private static void rows() {
        says("2 row: A ROW of a LANE with n ITEMS, in place of what is there");
        changes("rows, status", "row", 0, 2, 5);
        changes("rows, status", "row", 4, 0, 0);
        changes("rows, status", "row", 2, 1, 0);
        changes("status", "row", 2, 0, 0);
        changes("status", "row", 7, 1, 40);
        says("3 set: ITEM i becomes v");
        changes("rows, status", "set", 0, 4, 3);
        changes("status", "set", 0, 4, 1);
        changes("status", "set", 3, 1, 258);
        says("4 copy: n ITEMS of a from i on come to b from j on");
        changes("rows, status", "copy", 0, 0, 1, 0, 1);
        changes("rows, status", "copy", 1, 0, 1, 1, 7);
        changes("status", "copy", 1, 0, 1, 5, 3);
        changes("status", "copy", 0, 5, 1, 8, 0);
        says("5 drop: A ROW is missing from now on");
        changes("rows, status", "drop", 0);
        changes("rows, status", "drop", 2);
    }

    private static void tapeAndTown() {
        says("6 feed: A byte comes behind the tape");
        changes("tape", "feed", '1');
        changes("tape", "feed", 0);
        says("7 town: The tape, empty then, is read");
        Supplier<MoodFare> told = () -> {
            MoodFare x = made();
            feedAll(x, "3,3;");
            return x;
        };
        changes(told, "tape, told, muches, open, rider, meter, acts", "town");
        says("7 town: the same text again, nothing done yet: the tape alone");
        changes(() -> {
            MoodFare x = of(PLAIN);
            feedAll(x, PLAIN);
            return x;
        }, "tape", "town");
        says("8 fault");
        changes("", "fault");
    }

    private static void acts() {
        says("9 ride: A STEP");
        changes("rider, meter, acts", "ride", 2);
        changes("rider, meter, acts", "ride", 5);
        changes(() -> of("t1,9;j0,0;j0,0;x0,1;x1,0;"), "rider, acts", "ride", 0);
        says("10 lesson: A lesson");
        changes("muches, acts", "lesson", 0, 9);
        changes("muches, acts", "lesson", 4, 0);
        changes("acts", "lesson", 4, 5);
        says("11 reset: The METER is 0");
        changes("meter, acts", "reset");
        changes(() -> of(PLAIN), "acts", "reset");
        says("12 street: A STREET is shut (0), or open (1)");
        for (int s = 0; s < 6; s++) changes("open, acts", "street", s, 0);
        changes("open, acts", "street", 6, 1);
    }

    private static void undone() {
        says("13 undo: The latest ACT is undone: a STEP, the METER, a STREET, a lesson, a STEP");
        changes("rider, meter, acts", "undo");
        changes(() -> undone(1), "meter, acts", "undo");
        changes(() -> undone(2), "open, acts", "undo");
        changes(() -> undone(3), "muches, acts", "undo");
        changes(() -> undone(4), "rider, meter, acts", "undo");
    }

    private static void toldOfTheTown() {
        says("14 corner, 15 way");
        for (int what = 0; what <= 4; what++) changes("", "corner", what, what);
        for (int what = 0; what <= 2; what++) changes("", "way", 6 - what, what);
    }

    private static void foretold() {
        says("16 would to 21 gets, 25 shut, 26 drawn: FORETOLD (nothing changes)");
        changes("", "reach");
        for (int what = 0; what <= 1; what++) {
            changes("", "would", 2, what);
            changes("", "would", 6, what);
            changes("", "shut", 4, 20, 5, what);
            changes("", "drawn", 60, 999999, what);
        }
        for (int k = -2; k <= 7; k += 3) {
            changes("", "cheapest", 1, k);
            changes("", "dearest", 8, k);
            if (k > -2) changes("", "gets", 0, k);
        }
        changes("", "moods", 0, 8);
        says("22 fits, 23 fitsOf, 24 share: FORETOLD, by ROWS");
        for (int what = 0; what <= 1; what++) {
            changes("status", "fits", 1, 0, 0, 0, 5, what);
            changes("status", "fitsOf", 3, 1, 0, 0, 0, 5, what);
        }
        changes("status", "share", 0, 0, 5, 4);
        changes("status", "share", 1, 0, 8, 0);
    }

    private static void images() {
        says("27 image: An IMAGE (0, 1) is kept of the TOWN");
        changes("image 0", "image", 0);
        changes("image 1", "image", 1);
        says("28 restore: The TOWN is as an IMAGE kept it (no ACT can be undone then)");
        changes("muches, open, rider, meter, acts", "restore", 0);
        changes("told, muches, open, rider, meter, acts", "restore", 1);
        says("28 restore: what it kept is there yet");
        changes(() -> {
            MoodFare x = made();
            x.restore(1);
            return x;
        }, "", "restore", 1);
    }

    private static void asked() {
        says("29 kind, 30 as");
        changes("", "kind", 4);
        changes("status", "as", 4, 4);
        says("31 ask: THE TRACE is empty ahead of it");
        changes("trace", "ask", 1, 1);
        changes("trace", "ask", 4, 0);
        changes("", "ask", 1, 0);
        says("32 trace, 33 count, 34 status");
        changes("", "trace", 0);
        changes("", "trace", 16);
        for (int what = 0; what <= 9; what++) changes("", "count", what);
        changes("", "status");
    }

    private static void eachCallWasTried() {
        says("each call of the face");
        Set<String> face = new TreeSet<>();
        for (Method method : MoodFare.class.getDeclaredMethods()) {
            if (Modifier.isPublic(method.getModifiers())) face.add(method.getName());
        }
        same("all are tried", tried.toString(), face.toString());
    }
}

import java.util.function.Supplier;

/**
 * What is refused, or found: each number of each call just within and just beyond its bounds and at both ends of int,
 * which of two refusals is answered, and that nothing changes by it but status(). For the last, two objects are made
 * by the same calls, one of them is asked what is refused, and then both are looked through as far as calls can see.
 */
public final class RefusalTest extends Checks {
    private static final int LEAST = Integer.MIN_VALUE, MOST = Integer.MAX_VALUE;

    public static void main(String[] args) {
        boundsOfRows();
        boundsOfActs();
        boundsOfForetold();
        boundsOfFits();
        boundsOfAsked();
        noSuchThingInASmallTown();
        withoutATown();
        states();
        full();
        badAheadOfAll();
        stateAheadOfBad();
        findingsInTime();
        badAheadOfFindings();
        refusedAheadOfNone();
        whatIsForetoldChangesNothing();
        faultsChangeNothing();
        end();
    }

    // ---- objects

    /** AT CORNER 2, STEP 2, MOOD 8; STREET 6 is shut; five ACTS, one IMAGE, ROWS 0, 1, 2, 3, 7, bytes on the tape, status 4. */
    private static MoodFare rich() {
        MoodFare x = new MoodFare();
        read(x, "t0");
        read(x, "t2,4;j1,1;l2,2;h3,3;g4,4;r5,5;j6,6;x0,1;x1,2;x2,3;x3,4;x4,5;x5,0;x0,3;x2,0;");
        x.ride(0);
        x.image(0);
        x.lesson(2, 2);
        x.street(6, 0);
        x.reset();
        x.ride(1);
        lay(x, 0, 2, 3, 4, 5, 0, 1, 2, 3);
        lay(x, 1, 0, 1, 2, 3, 4, 5, 6, 7);
        x.row(2, 0, 0);
        x.row(3, 0, 3);
        x.row(7, 1, 40);
        x.ask(1, 0);
        feedAll(x, "t1,5;j");
        x.row(0, 0, -1);
        return x;
    }

    /** No TOWN, but ROWS, bytes on the tape, a FAULT, status 4. */
    private static MoodFare bare() {
        MoodFare x = new MoodFare();
        read(x, "t0");
        x.row(0, 2, 8);
        x.row(3, 0, 3);
        feedAll(x, "t1,5;j");
        x.row(0, 0, -1);
        return x;
    }

    private static MoodFare fullTape() {
        MoodFare x = rich();
        for (int n = 6; n < 120; n++) x.feed(' ');
        return x;
    }

    private static MoodFare small() {
        return of("t1,5;j1,1;j2,2;x0,1;");
    }

    // ---- looking through

    private static void lookAtTown(MoodFare x, StringBuilder b) {
        b.append(" counts ").append(counts(x, 0, 1, 2, 3, 4, 5, 6, 7, 8, 9)).append(" corners");
        for (int c = 0; c < 6; c++) {
            b.append(' ').append(x.kind(c));
            for (int what = 0; what < 5; what++) b.append(' ').append(x.corner(c, what));
        }
        b.append(" ways");
        for (int s = 0; s < 8; s++) {
            for (int what = 0; what < 3; what++) b.append(' ').append(x.way(s, what));
            b.append(' ').append(x.would(s, 1));
        }
    }

    /** All that calls can tell of an object, but for status(); it is used up by it. */
    private static String seen(MoodFare x) {
        StringBuilder b = new StringBuilder("fault ").append(x.fault()).append(" trace");
        for (int i = 0; i < 7; i++) b.append(' ').append(x.trace(i));
        lookAtTown(x, b);
        b.append(" rows");
        for (int row = 0; row < 8; row++) {
            for (int i = 0; i < 9; i += row == 0 ? 1 : 4) b.append(' ').append(x.share(row, i, 1, 0));
            for (int other = 0; other < 4; other += 3) b.append(' ').append(x.copy(row, 0, other, 0, 0));
        }
        b.append(" undone");
        for (int n = 0; n < 6; n++) b.append(' ').append(x.undo()).append(' ').append(counts(x, 3, 4, 5, 8, 9)).append(' ').append(x.corner(2, 0));
        b.append(" images");
        for (int k = 0; k < 2; k++) {
            b.append(' ').append(x.restore(k)).append(' ').append(counts(x, 3, 4, 5, 6, 8, 9)).append(' ').append(x.corner(2, 0));
        }
        feedAll(x, "3,3;");
        b.append(" read ").append(x.town()).append(' ').append(x.fault()).append(' ').append(counts(x, 1, 5, 7));
        for (int row = 0; row < 8; row++) b.append(' ').append(x.drop(row));
        return b.toString();
    }

    /** The call is answered so, and leaves all as it was; status() is another by a finding alone. */
    private static void leaves(Supplier<MoodFare> made, int want, int status, String name, int... args) {
        String what = told(name, args);
        MoodFare asked = made.get();
        due(what, call(asked, name, args), want);
        due("status behind " + what, asked.status(), status);
        same("all behind " + what, seen(asked), seen(made.get()));
    }

    private static void refused(Supplier<MoodFare> made, int want, String name, int... args) {
        boolean isFinding = want <= NULL && want >= STORE;
        leaves(made, want, isFinding ? -1000010 - want : made.get().status(), name, args);
    }

    private static void refused(int want, String name, int... args) {
        refused(RefusalTest::rich, want, name, args);
    }

    private static int[] with(int[] args, int place, int v) {
        int[] other = args.clone();
        other[place] = v;
        return other;
    }

    /** Of a call that is well with these numbers: one of them may be least to most, and is refused beyond. */
    private static void bounds(String name, int[] args, int place, int least, int most, int below, int above) {
        for (int v : new int[] {least, most}) {
            int[] good = with(args, place, v);
            int answer = call(rich(), name, good);
            due(told(name, good) + " is not refused so: " + answer, answer == below || answer == above ? 1 : 0, 0);
        }
        for (int v : new int[] {LEAST, LEAST + 1, least - 1}) refused(below, name, with(args, place, v));
        for (int v : new int[] {most + 1, MOST - 1, MOST}) refused(above, name, with(args, place, v));
    }

    private static void bounds(String name, int[] args, int place, int least, int most) {
        bounds(name, args, place, least, most, BAD, BAD);
    }

    // ---- bounds

    private static void boundsOfRows() {
        says("2 row: BAD: ROW, LANE, n above 40; SIZE.");
        bounds("row", numbers(0, 0, 1), 0, 0, 7);
        bounds("row", numbers(0, 0, 1), 1, 0, 2);
        bounds("row", numbers(0, 0, 1), 2, 0, 40, SIZE, BAD);
        says("3 set: BAD: ROW; NULL; PLACE.");
        bounds("set", numbers(0, 0, 1), 0, 0, 7);
        bounds("set", numbers(0, 0, 1), 1, 0, 7, PLACE, PLACE);
        bounds("set", numbers(7, 0, 1), 1, 0, 39, PLACE, PLACE);
        for (int row = 4; row <= 6; row++) refused(NULL, "set", row, 0, 1);
        refused(PLACE, "set", 2, 0, 1);
        says("4 copy: BAD: ROWS; NULL; STORE; PLACE (i, j, n below 0, or beyond an end).");
        bounds("copy", numbers(0, 0, 1, 0, 1), 0, 0, 7);
        bounds("copy", numbers(0, 0, 1, 0, 1), 2, 0, 7);
        bounds("copy", numbers(0, 0, 1, 0, 1), 1, 0, 7, PLACE, PLACE);
        bounds("copy", numbers(0, 0, 1, 0, 1), 3, 0, 7, PLACE, PLACE);
        bounds("copy", numbers(0, 3, 1, 0, 1), 4, 0, 5, PLACE, PLACE);
        bounds("copy", numbers(0, 0, 1, 3, 1), 4, 0, 5, PLACE, PLACE);
        bounds("copy", numbers(0, 0, 1, 0, 0), 1, 0, 8, PLACE, PLACE);
        bounds("copy", numbers(0, 0, 1, 0, 0), 3, 0, 8, PLACE, PLACE);
        refused(NULL, "copy", 4, 0, 0, 0, 0);
        refused(NULL, "copy", 0, 0, 4, 0, 0);
        refused(STORE, "copy", 0, 0, 3, 0, 0);
        refused(STORE, "copy", 3, 0, 7, 0, 1);
        says("5 drop: BAD; NULL.");
        bounds("drop", numbers(0), 0, 0, 7);
        for (int row = 4; row <= 6; row++) refused(NULL, "drop", row);
        says("6 feed: BAD");
        bounds("feed", numbers(0), 0, 0, 255);
    }

    private static void boundsOfActs() {
        says("9 ride: BAD: no such STREET");
        bounds("ride", numbers(2), 0, 0, 7);
        says("10 lesson: MUCH (0 to 9). BAD.");
        bounds("lesson", numbers(0, 1), 0, 0, 5);
        bounds("lesson", numbers(0, 1), 1, 0, 9);
        says("12 street: BAD");
        bounds("street", numbers(0, 0), 0, 0, 7);
        bounds("street", numbers(0, 0), 1, 0, 1);
        bounds("street", numbers(6, 0), 1, 0, 1);
        says("14 corner: BAD.");
        bounds("corner", numbers(0, 0), 0, 0, 5);
        bounds("corner", numbers(0, 0), 1, 0, 4);
        says("15 way: BAD.");
        bounds("way", numbers(0, 0), 0, 0, 7);
        bounds("way", numbers(0, 0), 1, 0, 2);
    }

    private static void boundsOfForetold() {
        says("16 would: BAD.");
        bounds("would", numbers(2, 0), 0, 0, 7);
        bounds("would", numbers(2, 0), 1, 0, 1);
        says("18 cheapest: BAD: k not -2 to 7, too.");
        bounds("cheapest", numbers(0, -1), 0, 0, 5);
        bounds("cheapest", numbers(0, -1), 1, -2, 7);
        says("19 dearest: BAD: k not -2 to 7, too");
        bounds("dearest", numbers(1, -1), 0, 0, 8);
        bounds("dearest", numbers(1, -1), 1, -2, 7);
        says("20 moods: BAD.");
        bounds("moods", numbers(0, 1), 0, 0, 5);
        bounds("moods", numbers(0, 1), 1, 0, 8);
        says("21 gets: (MOOD 0 to 9). BAD: k not -1 to 7, too");
        bounds("gets", numbers(5, -1), 0, 0, 9);
        bounds("gets", numbers(5, -1), 1, -1, 7);
        says("25 shut: q (0 to 999), (c 0 to 10), what. BAD.");
        bounds("shut", numbers(0, 0, 0, 0), 0, 0, 5);
        bounds("shut", numbers(0, 0, 0, 0), 1, 0, 999);
        bounds("shut", numbers(0, 0, 0, 0), 2, 0, 10);
        bounds("shut", numbers(0, 0, 0, 0), 3, 0, 1);
        says("26 drawn: n STEPS (0 to 60), a SEED (1 to 999999), what. BAD");
        bounds("drawn", numbers(1, 1, 0), 0, 0, 60);
        bounds("drawn", numbers(1, 1, 0), 1, 1, 999999);
        bounds("drawn", numbers(1, 1, 0), 2, 0, 1);
        says("27 image, 28 restore: An IMAGE (0, 1). BAD");
        bounds("image", numbers(0), 0, 0, 1);
        bounds("restore", numbers(0), 0, 0, 1);
    }

    private static void boundsOfFits() {
        says("22 fits: BAD: ROWS, n, what; NULL, PLACE");
        bounds("fits", numbers(0, 0, 1, 0, 1, 0), 0, 0, 7);
        bounds("fits", numbers(0, 0, 1, 0, 1, 0), 2, 0, 7);
        bounds("fits", numbers(0, 0, 1, 0, 1, 0), 4, 1, 8);
        bounds("fits", numbers(0, 0, 1, 0, 1, 0), 5, 0, 1);
        bounds("fits", numbers(0, 0, 1, 0, 8, 0), 1, 0, 0, PLACE, PLACE);
        bounds("fits", numbers(0, 0, 1, 0, 8, 0), 3, 0, 0, PLACE, PLACE);
        bounds("fits", numbers(0, 0, 1, 0, 1, 1), 1, 0, 7, PLACE, PLACE);
        bounds("fits", numbers(0, 0, 1, 0, 1, 1), 3, 0, 7, PLACE, PLACE);
        refused(NULL, "fits", 4, 0, 0, 0, 1, 0);
        refused(NULL, "fits", 0, 0, 4, 0, 1, 0);
        says("23 fitsOf: BAD: CORNER, ROWS, n, what; NULL, PLACE likewise.");
        bounds("fitsOf", numbers(0, 0, 0, 1, 0, 1, 0), 0, 0, 5);
        bounds("fitsOf", numbers(0, 0, 0, 1, 0, 1, 0), 1, 0, 7);
        bounds("fitsOf", numbers(0, 0, 0, 1, 0, 1, 0), 3, 0, 7);
        bounds("fitsOf", numbers(0, 0, 0, 1, 0, 1, 0), 5, 1, 8);
        bounds("fitsOf", numbers(0, 0, 0, 1, 0, 1, 0), 6, 0, 1);
        bounds("fitsOf", numbers(0, 0, 0, 1, 0, 8, 0), 2, 0, 0, PLACE, PLACE);
        bounds("fitsOf", numbers(0, 0, 0, 1, 0, 8, 0), 4, 0, 0, PLACE, PLACE);
        bounds("fitsOf", numbers(0, 0, 0, 1, 0, 1, 1), 2, 0, 7, PLACE, PLACE);
        bounds("fitsOf", numbers(0, 0, 0, 1, 0, 1, 1), 4, 0, 7, PLACE, PLACE);
        refused(NULL, "fitsOf", 0, 4, 0, 0, 0, 1, 0);
        refused(NULL, "fitsOf", 0, 0, 0, 4, 0, 1, 0);
        says("24 share: BAD: ROW, n (1 to 8), k; NULL; PLACE.");
        bounds("share", numbers(0, 0, 1, 0), 0, 0, 7);
        bounds("share", numbers(0, 0, 1, 0), 2, 1, 8);
        bounds("share", numbers(0, 0, 8, 0), 3, 0, 7);
        bounds("share", numbers(0, 0, 1, 0), 3, 0, 0);
        bounds("share", numbers(0, 0, 1, 0), 1, 0, 7, PLACE, PLACE);
        bounds("share", numbers(0, 0, 8, 0), 1, 0, 0, PLACE, PLACE);
        refused(NULL, "share", 4, 0, 1, 0);
        refused(PLACE, "share", 2, 0, 1, 0);
    }

    private static void boundsOfAsked() {
        says("29 kind: BAD.");
        bounds("kind", numbers(0), 0, 0, 5);
        says("30 as: KIND (0 .. 5). BAD; KIND: it is no such one.");
        bounds("as", numbers(0, 0), 0, 0, 5);
        bounds("as", numbers(0, 0), 1, 0, 5);
        refused(KIND, "as", 0, 2);
        refused(KIND, "as", 4, 1);
        refused(KIND, "as", 3, 5);
        says("31 ask: An ASK (0, 1). BAD.");
        bounds("ask", numbers(0, 0), 0, 0, 5);
        bounds("ask", numbers(0, 0), 1, 0, 1);
        says("32 trace: NONE");
        for (int i : numbers(LEAST, LEAST + 1, -1, 6, 15, 16, MOST - 1, MOST)) refused(NONE, "trace", i);
        says("33 count: BAD.");
        bounds("count", numbers(0), 0, 0, 9);
    }

    private static void noSuchThingInASmallTown() {
        says("BAD (there is no such thing): CORNER 2 of two, STREET 1 of one");
        Supplier<MoodFare> two = RefusalTest::small;
        for (int c = 2; c <= 6; c++) {
            refused(two, BAD, "lesson", c, 0);
            refused(two, BAD, "corner", c, 0);
            refused(two, BAD, "cheapest", c, -1);
            refused(two, BAD, "moods", c, 0);
            refused(two, BAD, "fitsOf", c, 0, 0, 0, 0, 1, 0);
            refused(two, BAD, "shut", c, 0, 0, 0);
            refused(two, BAD, "kind", c);
            refused(two, BAD, "as", c, 0);
            refused(two, BAD, "ask", c, 0);
        }
        for (int s = 1; s <= 8; s++) {
            refused(two, BAD, "ride", s);
            refused(two, BAD, "street", s, 0);
            refused(two, BAD, "way", s, 0);
            refused(two, BAD, "would", s, 0);
        }
    }

    private static void withoutATown() {
        says("no TOWN: there is no CORNER, no STREET, and STATE where it is told");
        Supplier<MoodFare> none = RefusalTest::bare;
        refused(none, BAD, "ride", 0);
        refused(none, BAD, "lesson", 0, 0);
        refused(none, STATE, "reset");
        refused(none, BAD, "street", 0, 0);
        refused(none, STATE, "undo");
        refused(none, BAD, "corner", 0, 0);
        refused(none, BAD, "way", 0, 0);
        refused(none, BAD, "would", 0, 0);
        refused(none, STATE, "reach");
        refused(none, BAD, "cheapest", 0, -1);
        refused(none, STATE, "dearest", 0, -1);
        refused(none, BAD, "moods", 0, 0);
        refused(none, STATE, "gets", 0, -1);
        refused(none, STATE, "fits", 0, 0, 0, 0, 1, 0);
        refused(none, BAD, "fitsOf", 0, 0, 0, 0, 0, 1, 0);
        refused(none, STATE, "share", 0, 0, 1, 0);
        refused(none, BAD, "shut", 0, 0, 0, 0);
        refused(none, STATE, "drawn", 0, 1, 0);
        for (int k = 0; k <= 1; k++) refused(none, STATE, "image", k);
        for (int k = 0; k <= 1; k++) refused(none, STATE, "restore", k);
        refused(none, BAD, "kind", 0);
        refused(none, BAD, "as", 0, 0);
        refused(none, BAD, "ask", 0, 0);
        refused(none, NONE, "trace", 0);
    }

    private static void states() {
        says("9 ride: STATE: it is shut, or not from where he is AT");
        for (int s : numbers(0, 1, 3, 4, 5, 6)) refused(STATE, "ride", s);
        refused(() -> {
            MoodFare x = rich();
            x.street(2, 0);
            x.set(4, 0, 0);
            return x;
        }, STATE, "ride", 2);
        says("12 street: STATE: it is so");
        for (int s : numbers(0, 1, 2, 3, 4, 5, 7)) refused(STATE, "street", s, 1);
        refused(STATE, "street", 6, 0);
        says("13 undo: STATE: none");
        refused(RefusalTest::small, STATE, "undo");
        refused(() -> {
            MoodFare x = rich();
            for (int n = 0; n < 5; n++) x.undo();
            return x;
        }, STATE, "undo");
        says("28 restore: STATE: none was kept");
        refused(STATE, "restore", 1);
    }

    private static void full() {
        says("6 feed: FULL");
        for (int letter : numbers(0, 't', 255)) refused(RefusalTest::fullTape, FULL, "feed", letter);
        says("6 feed: BAD is ahead of FULL");
        for (int letter : numbers(LEAST, -1, 256, MOST)) refused(RefusalTest::fullTape, BAD, "feed", letter);
    }

    // ---- which of two

    private static void badAheadOfAll() {
        says("BAD, then STATE");
        for (int k : numbers(-1, 2)) {
            refused(RefusalTest::bare, BAD, "image", k);
            refused(RefusalTest::bare, BAD, "restore", k);
        }
        for (int on : numbers(-1, 2)) {
            refused(BAD, "street", 0, on);
            refused(BAD, "street", 6, on);
            refused(BAD, "street", 8, on);
        }
        refused(BAD, "ride", 8);
        says("STATE is not told of these: without a TOWN their numbers are BAD all the same");
        refused(RefusalTest::bare, BAD, "lesson", 0, 10);
        refused(RefusalTest::bare, BAD, "fitsOf", 0, 4, 0, 4, 0, 1, 0);
        refused(RefusalTest::bare, BAD, "fitsOf", 0, 0, 8, 0, 0, 1, 0);
        refused(RefusalTest::bare, BAD, "as", 0, 5);
        refused(RefusalTest::bare, BAD, "count", 10);
    }

    private static void stateAheadOfBad() {
        says("STATE: no TOWN (ahead of BAD)");
        Supplier<MoodFare> none = RefusalTest::bare;
        for (int v : numbers(LEAST, -3, 9, MOST)) {
            refused(none, STATE, "dearest", v, -1);
            refused(none, STATE, "dearest", 0, v);
            refused(none, STATE, "gets", 0, v);
            refused(none, STATE, "fits", v, 0, 0, 0, 1, 0);
            refused(none, STATE, "fits", 0, 0, v, 0, 1, 0);
            refused(none, STATE, "fits", 0, 0, 0, 0, v, 0);
            refused(none, STATE, "fits", 0, 0, 0, 0, 1, v);
            refused(none, STATE, "share", v, 0, 1, 0);
            refused(none, STATE, "share", 0, 0, v, 0);
            refused(none, STATE, "share", 0, 0, 1, v);
            refused(none, STATE, "drawn", 0, 1, v);
        }
        for (int v : numbers(LEAST, -1, 10, MOST)) refused(none, STATE, "gets", v, -1);
        for (int v : numbers(LEAST, -1, 61, MOST)) refused(none, STATE, "drawn", v, 1, 0);
        for (int v : numbers(LEAST, 0, 1000000, MOST)) refused(none, STATE, "drawn", 0, v, 0);
        says("STATE: no TOWN, ahead of what is found");
        refused(none, STATE, "fits", 4, 0, 0, 0, 1, 0);
        refused(none, STATE, "fits", 0, 0, 4, 0, 1, 0);
        refused(none, STATE, "fits", 0, 8, 0, 0, 1, 0);
        refused(none, STATE, "share", 4, 0, 1, 0);
        refused(none, STATE, "share", 0, 8, 1, 0);
    }

    private static void findingsInTime() {
        says("3 set: NULL, then PLACE");
        for (int i : numbers(LEAST, -1, 0, 40, MOST)) refused(NULL, "set", 4, i, 1);
        says("4 copy: NULL, then STORE, then PLACE");
        refused(NULL, "copy", 4, -1, 0, 0, 1);
        refused(NULL, "copy", 0, 0, 4, -1, 1);
        refused(NULL, "copy", 0, 9, 4, 0, 1);
        refused(NULL, "copy", 4, 0, 0, 9, 1);
        refused(NULL, "copy", 4, 0, 5, 0, -1);
        refused(NULL, "copy", 4, 0, 4, 0, 0);
        refused(STORE, "copy", 0, -1, 3, 0, 1);
        refused(STORE, "copy", 0, 0, 3, -1, 1);
        refused(STORE, "copy", 0, 0, 3, 0, -1);
        refused(STORE, "copy", 0, 9, 7, 0, 1);
        refused(STORE, "copy", 0, 0, 2, 0, 1);
        says("22 fits: NULL, PLACE of the costs' ROW, then NULL, PLACE of the other one");
        refused(NULL, "fits", 4, -1, 1, 0, 1, 0);
        refused(NULL, "fits", 4, 0, 1, -1, 1, 0);
        refused(NULL, "fits", 4, 0, 5, 0, 1, 0);
        refused(PLACE, "fits", 0, 8, 4, 0, 1, 0);
        refused(PLACE, "fits", 0, -1, 4, -1, 1, 0);
        refused(NULL, "fits", 0, 0, 4, -1, 1, 0);
        refused(PLACE, "fits", 0, 8, 1, 8, 1, 0);
        refused(PLACE, "fits", 0, 0, 1, 8, 1, 0);
        says("23 fitsOf: likewise");
        refused(NULL, "fitsOf", 0, 4, -1, 1, 0, 1, 0);
        refused(NULL, "fitsOf", 0, 4, 0, 1, -1, 1, 0);
        refused(NULL, "fitsOf", 0, 4, 0, 5, 0, 1, 0);
        refused(PLACE, "fitsOf", 0, 0, 8, 4, 0, 1, 0);
        refused(PLACE, "fitsOf", 0, 0, -1, 4, -1, 1, 0);
        refused(NULL, "fitsOf", 0, 0, 0, 4, -1, 1, 0);
        refused(PLACE, "fitsOf", 0, 0, 8, 1, 8, 1, 0);
        refused(PLACE, "fitsOf", 0, 0, 0, 1, 8, 1, 0);
        says("24 share: NULL; PLACE");
        for (int i : numbers(LEAST, -1, 40, MOST)) refused(NULL, "share", 4, i, 1, 0);
    }

    private static void badAheadOfFindings() {
        says("2 row: BAD, then SIZE");
        for (int n : numbers(LEAST, -1)) {
            refused(BAD, "row", 8, 0, n);
            refused(BAD, "row", -1, 0, n);
            refused(BAD, "row", 0, 3, n);
            refused(BAD, "row", 0, -1, n);
        }
        says("3 set, 5 drop: BAD, whatever the place");
        refused(BAD, "set", 8, -1, 1);
        refused(BAD, "drop", 8);
        says("4 copy: BAD, then what is found");
        refused(BAD, "copy", 8, 0, 4, 0, 1);
        refused(BAD, "copy", 4, 0, 8, 0, 1);
        refused(BAD, "copy", -1, 0, 0, -1, -1);
        refused(BAD, "copy", 0, -1, -1, 0, -1);
        says("22 fits: BAD, then what is found");
        refused(BAD, "fits", 4, 0, 8, 0, 1, 0);
        refused(BAD, "fits", 8, 0, 4, 0, 1, 0);
        refused(BAD, "fits", 4, 0, 1, 0, 9, 0);
        refused(BAD, "fits", 4, 0, 1, 0, 1, 2);
        refused(BAD, "fits", 0, 8, 1, 0, 0, 0);
        refused(BAD, "fits", 0, 0, 1, 8, 1, -1);
        says("23 fitsOf: BAD, then what is found");
        refused(BAD, "fitsOf", 6, 4, 0, 1, 0, 1, 0);
        refused(BAD, "fitsOf", 6, 0, 8, 1, 0, 1, 0);
        refused(BAD, "fitsOf", 0, 4, 0, 8, 0, 1, 0);
        refused(BAD, "fitsOf", 0, 8, 0, 4, 0, 1, 0);
        refused(BAD, "fitsOf", 0, 4, 0, 1, 0, 9, 0);
        refused(BAD, "fitsOf", 0, 4, 0, 1, 0, 1, 2);
        says("24 share: BAD, then what is found");
        refused(BAD, "share", 4, 0, 0, 0);
        refused(BAD, "share", 4, 0, 9, 0);
        refused(BAD, "share", 4, 0, 1, 1);
        refused(BAD, "share", 0, 8, 1, -1);
        says("30 as: BAD, then KIND");
        refused(BAD, "as", 6, 5);
        refused(BAD, "as", 0, 6);
        refused(BAD, "as", -1, 2);
    }

    private static void refusedAheadOfNone() {
        says("BAD, then NONE");
        for (int what : numbers(-1, 2)) {
            refused(BAD, "would", 0, what);
            refused(BAD, "would", 6, what);
        }
        Supplier<MoodFare> away = () -> {
            MoodFare x = small();
            x.ride(0);
            return x;
        };
        refused(away, NONE, "cheapest", 0, -1);
        for (int k : numbers(-3, 8)) {
            refused(away, BAD, "cheapest", 0, k);
            refused(away, BAD, "dearest", 1, k);
        }
        refused(away, NONE, "dearest", 1, -1);
        refused(away, BAD, "dearest", 9, -1);
        refused(away, NONE, "gets", 0, -1);
        refused(away, BAD, "gets", 0, -2);
        refused(away, BAD, "gets", 0, 8);
        says("what is found, then NONE");
        refused(PLACE, "share", 7, 33, 8, 0);
        refused(NULL, "share", 5, 0, 1, 0);
    }

    // ---- nothing changes

    private static void whatIsForetoldChangesNothing() {
        says("FORETOLD (nothing changes)");
        MoodFare x = rich();
        for (int what = 0; what <= 1; what++) {
            leaves(RefusalTest::rich, x.would(2, what), 4, "would", 2, what);
            leaves(RefusalTest::rich, x.shut(5, 40, 3, what), 4, "shut", 5, 40, 3, what);
            leaves(RefusalTest::rich, x.drawn(60, 7, what), 4, "drawn", 60, 7, what);
            leaves(RefusalTest::rich, rich().fits(1, 0, 0, 0, 8, what), 0, "fits", 1, 0, 0, 0, 8, what);
            leaves(RefusalTest::rich, rich().fitsOf(3, 1, 0, 0, 0, 8, what), 0, "fitsOf", 3, 1, 0, 0, 0, 8, what);
        }
        leaves(RefusalTest::rich, x.reach(), 4, "reach");
        for (int k = -2; k <= 7; k++) {
            leaves(RefusalTest::rich, x.cheapest(1, k), 4, "cheapest", 1, k);
            leaves(RefusalTest::rich, x.dearest(8, k), 4, "dearest", 8, k);
        }
        leaves(RefusalTest::rich, x.moods(3, 8), 4, "moods", 3, 8);
        leaves(RefusalTest::rich, x.gets(0, -1), 4, "gets", 0, -1);
        leaves(RefusalTest::rich, rich().share(0, 0, 8, 0), 0, "share", 0, 0, 8, 0);
        leaves(RefusalTest::rich, NONE, 0, "share", 1, 0, 8, 0);
        says("ASKED: nothing changes but THE TRACE, status");
        for (int what = 0; what < 5; what++) leaves(RefusalTest::rich, x.corner(2, what), 4, "corner", 2, what);
        for (int what = 0; what < 3; what++) leaves(RefusalTest::rich, x.way(2, what), 4, "way", 2, what);
        for (int what = 0; what < 10; what++) leaves(RefusalTest::rich, x.count(what), 4, "count", what);
        leaves(RefusalTest::rich, 2, 4, "fault");
        leaves(RefusalTest::rich, 4, 4, "status");
        leaves(RefusalTest::rich, 3, 4, "kind", 2);
        leaves(RefusalTest::rich, 2, 0, "as", 2, 1);
        leaves(RefusalTest::rich, 12, 4, "trace", 0);
        leaves(RefusalTest::rich, x.ask(1, 0), 4, "ask", 1, 0);
    }

    private static void faultsChangeNothing() {
        says("7 town: all stays (but the tape, and the FAULT)");
        Supplier<MoodFare> read = () -> {
            MoodFare x = rich();
            x.town();
            return x;
        };
        leaves(read, -1000100, 4, "town");
        MoodFare x = rich();
        due("the end of it", x.town(), -1000106);
        same("counts", counts(x, 0, 1, 2, 3, 4, 5, 6, 7, 8, 9), counts(rich(), 0, 1, 2, 3, 4, 5, 6).concat(" 0 ").concat(counts(rich(), 8, 9)));
    }
}

/** The sentences under each promise's own heading that name a boundary, but for what is refused: that is in RefusalTest. */
public final class CallsTest extends Checks {
    private static final String EIGHT =
        "t9,0;g9,9;j9,9;j0,0;j0,0;j0,0;j0,0;x0,1;x1,0;x1,2;x2,3;x3,4;x4,5;x5,0;x5,1;";

    public static void main(String[] args) {
        aNewObject();
        row();
        set();
        copy();
        copyOntoItself();
        drop();
        feed();
        town();
        allStays();
        fault();
        ride();
        rideToStep999();
        lesson();
        reset();
        street();
        undo();
        corner();
        way();
        would();
        reachAndWays();
        image();
        restore();
        kindAndAs();
        ask();
        trace();
        countAtLeast();
        countAtMost();
        status();
        statusOfOtherCalls();
        end();
    }

    private static void aNewObject() {
        says("1 A new object: No TOWN.");
        MoodFare x = new MoodFare();
        same("all counts", counts(x, 0, 1, 2, 3, 4, 5, 6, 7, 8, 9), "0 0 0 0 0 0 0 0 0 0");
        due("no CORNER", x.corner(0, 0), BAD);
        due("no KIND", x.kind(0), BAD);
        due("no STREET", x.way(0, 0), BAD);
        due("OPEN ways", x.reach(), STATE);
        due("IMAGE 0", x.restore(0), STATE);
        due("IMAGE 1", x.restore(1), STATE);
        due("undo", x.undo(), STATE);
        due("fault", x.fault(), 0);
        due("status", x.status(), 0);
        due("trace", x.trace(0), NONE);
        MoodFare other = of(PLAIN);
        other.row(0, 0, 1);
        due("one object is not another: TOWN", x.count(1), 0);
        due("one object is not another: ROWS", x.count(0), 0);
    }

    private static void row() {
        says("2 row: A ROW of a LANE with n ITEMS, in place of what is there: n.");
        MoodFare x = of(HUB);
        for (int n = 0; n <= 40; n++) due("n", x.row(0, n % 3, n), n);
        due("one ROW all the while", x.count(0), 1);
        due("fewer in its place", x.row(0, 0, 3), 3);
        due("the LANE is another", x.set(0, 2, 300), 44);
        due("beyond", x.set(0, 3, 0), PLACE);
        x.row(1, 2, 2);
        x.set(1, 1, 4);
        due("one ROW is not another", item(x, 0, 0), 0);
        x.row(0, 1, 2);
        due("one ROW is not another", item(x, 1, 1), 4);
    }

    private static void set() {
        says("3 set: ITEM i becomes v, its lowest bits, as many as the LANE has: what it is then.");
        MoodFare x = of(HUB);
        for (int lane = 0; lane <= 2; lane++) {
            x.row(lane, lane, 3);
            due("the first", x.set(lane, 0, 3), 3);
            due("the last", x.set(lane, 2, 4), 4);
            due("is so", item(x, lane, 0), 3);
            due("another is not", item(x, lane, 1), 0);
            due("is so", item(x, lane, 2), 4);
        }
        due("256 and 2, of a byte", x.set(0, 0, 258), 2);
        due("is so", item(x, 0, 0), 2);
        due("65536 and 2, of a short", x.set(1, 0, 65538), 2);
        due("is so", item(x, 1, 0), 2);
        due("256 and 2, of a short", x.set(1, 0, 258), 258);
        due("is no STREET", item(x, 1, 0), NONE);
        due("65536 and 2, of an int", x.set(2, 0, 65538), 65538);
        due("is no STREET", item(x, 2, 0), NONE);
    }

    private static void items(String what, MoodFare x, int row, int... want) {
        for (int i = 0; i < want.length; i++) due(what + ", ITEM " + i, item(x, row, i), want[i]);
    }

    private static void copy() {
        says("4 copy: n ITEMS of a from i on come to b from j on: n.");
        MoodFare x = of(HUB);
        lay(x, 0, 0, 1, 2, 3, 4);
        lay(x, 1, 4, 4, 4);
        due("none", x.copy(0, 0, 1, 0, 0), 0);
        due("none, at both ends", x.copy(0, 5, 1, 3, 0), 0);
        items("none", x, 1, 4, 4, 4);
        due("one, the last to the first", x.copy(0, 4, 1, 0, 1), 1);
        due("one, the first to the last", x.copy(0, 0, 1, 2, 1), 1);
        items("one each", x, 1, 4, 4, 0);
        due("up to the ends", x.copy(0, 2, 1, 0, 3), 3);
        items("up to the ends", x, 1, 2, 3, 4);
        items("stays", x, 0, 0, 1, 2, 3, 4);
        says("4 copy: PLACE (i, j, n below 0, or beyond an end)");
        due("i and n beyond", x.copy(0, 3, 1, 0, 3), PLACE);
        due("j and n beyond", x.copy(0, 0, 1, 1, 3), PLACE);
        due("i beyond, of none", x.copy(0, 6, 1, 0, 0), PLACE);
        due("j beyond, of none", x.copy(0, 0, 1, 4, 0), PLACE);
        due("i below, of none", x.copy(0, -1, 1, 0, 0), PLACE);
        due("j below, of none", x.copy(0, 0, 1, -1, 0), PLACE);
        due("n below", x.copy(0, 1, 1, 1, -1), PLACE);
        due("n below, beyond the ends", x.copy(0, 6, 1, 4, -1), PLACE);
        due("i and n wrap round", x.copy(0, Integer.MAX_VALUE, 1, 0, 2), PLACE);
        due("j and n wrap round", x.copy(0, 0, 1, Integer.MAX_VALUE, 2), PLACE);
        due("i and n, the least and the most", x.copy(0, Integer.MIN_VALUE, 1, 0, Integer.MAX_VALUE), PLACE);
        due("n, the least", x.copy(0, 0, 1, 0, Integer.MIN_VALUE), PLACE);
        due("i and n, the least both", x.copy(0, Integer.MIN_VALUE, 1, 0, Integer.MIN_VALUE), PLACE);
        items("as it was", x, 1, 2, 3, 4);
        for (int lane = 0; lane <= 2; lane++) {
            x.row(2, lane, 40);
            x.row(3, lane, 40);
            x.set(2, 39, 3);
            due("all 40 of a LANE", x.copy(2, 0, 3, 0, 40), 40);
            due("came there", item(x, 3, 39), 3);
            due("41", x.copy(2, 0, 3, 0, 41), PLACE);
        }
    }

    private static void copyOntoItself() {
        says("4 copy: as they were ahead");
        MoodFare x = of(HUB);
        lay(x, 0, 0, 1, 2, 3, 4);
        due("upwards", x.copy(0, 0, 0, 1, 4), 4);
        items("upwards", x, 0, 0, 0, 1, 2, 3);
        lay(x, 0, 0, 1, 2, 3, 4);
        due("downwards", x.copy(0, 1, 0, 0, 4), 4);
        items("downwards", x, 0, 1, 2, 3, 4, 4);
        lay(x, 0, 0, 1, 2, 3, 4);
        due("onto the same place", x.copy(0, 0, 0, 0, 5), 5);
        items("onto the same place", x, 0, 0, 1, 2, 3, 4);
    }

    private static void drop() {
        says("5 drop: A ROW is missing from now on: how many ITEMS it had.");
        MoodFare x = of(HUB);
        for (int n = 0; n <= 40; n += 20) {
            x.row(7, 1, n);
            due("had", x.drop(7), n);
            due("missing", x.drop(7), NULL);
            due("missing", x.set(7, 0, 0), NULL);
            due("missing", x.copy(7, 0, 7, 0, 0), NULL);
            due("missing", x.share(7, 0, 1, 0), NULL);
            due("no ROWS", x.count(0), 0);
        }
    }

    private static void feed() {
        says("6 feed: A byte (0 to 255) comes behind the tape: how many it has.");
        MoodFare x = new MoodFare();
        due("-1", x.feed(-1), BAD);
        due("none yet", x.count(7), 0);
        due("0", x.feed(0), 1);
        due("255", x.feed(255), 2);
        due("256", x.feed(256), BAD);
        due("two", x.count(7), 2);
        says("6 feed: a byte that is refused is not on the tape");
        MoodFare y = new MoodFare();
        feedAll(y, "t1,1;");
        y.feed(-1);
        y.feed(256);
        y.feed(256 + 'x');
        feedAll(y, "j0,0;");
        due("read", y.town(), 0);
        says("6 feed: FULL");
        MoodFare z = new MoodFare();
        feedAll(z, "t1,1;j0,0;");
        for (int n = 10; n < 119; n++) z.feed(' ');
        due("119", z.count(7), 119);
        due("the 120th", z.feed(' '), 120);
        due("the 121st", z.feed(' '), FULL);
        due("read, the blank is at 10", z.town(), -1000110);
    }

    private static void town() {
        says("7 town: The tape, empty then, is read: how many STREETS there are.");
        MoodFare x = new MoodFare();
        due("no STREET", read(x, "t1,1;j0,0;"), 0);
        due("empty then", x.count(7), 0);
        due("once read, there is nothing on it", x.town(), -1000100);
        due("the TOWN stays", x.count(1), 1);
        due("8 STREETS", read(x, EIGHT), 8);
        due("empty then", x.count(7), 0);
        due("a FAULT", read(x, "t1,1;"), -1000105);
        due("empty then, too", x.count(7), 0);
        due("so another can be read", read(x, "t1,1;j0,0;"), 0);
        says("7 town: -1000100 less the place of a FAULT");
        due("place 0", read(x, "j"), -1000100);
        due("place 1", read(x, "t0"), -1000101);
        due("place 75", read(x, EIGHT + "x"), -1000175);
    }

    private static void allStays() {
        says("7 town: a FAULT: all stays");
        String[] faulty = {"", "t", "t9,9;", "t9,9;r9,9;x", "t9,9;r9,9;r9,9;x0,1;x1,0;x0,1;", EIGHT + "j", "t9,9;r9,9;g8,8;q"};
        for (String text : faulty) {
            MoodFare x = of(PLAIN);
            x.ride(0);
            x.lesson(0, 7);
            x.street(2, 0);
            x.image(0);
            x.ask(0, 1);
            due("a FAULT", read(x, text) <= -1000100 ? 1 : 0, 1);
            same("counts", counts(x, 1, 2, 3, 4, 5, 6, 7, 8, 9), "5 7 1 1 5 3 0 9 123");
            due("MUCH", x.corner(0, 0), 7);
            due("FEE", x.corner(1, 1), 0);
            due("KIND", x.kind(1), 2);
            due("FROM", x.way(0, 0), 0);
            due("TO", x.way(2, 1), 0);
            due("RATE", x.would(1, 1), 13);
            due("THE TRACE", x.trace(0), 21);
            due("ACTS", x.undo(), 2);
            due("ACTS", x.undo(), 1);
            due("MUCH, undone", x.corner(0, 0), 1);
            due("ACTS", x.undo(), 0);
            same("undone", counts(x, 3, 4, 5, 8, 9), "0 0 2 0 127");
            due("IMAGE", x.restore(0), 1);
            same("IMAGE", counts(x, 3, 4, 5, 8, 9), "1 1 5 9 123");
        }
    }

    private static void fault() {
        says("8 fault: The number of the latest FAULT; 0 before one.");
        MoodFare x = new MoodFare();
        due("before one", x.fault(), 0);
        read(x, PLAIN);
        due("before one, a TOWN was read", x.fault(), 0);
        read(x, EIGHT + "x");
        due("3", x.fault(), 3);
        read(x, "t0");
        due("2", x.fault(), 2);
        read(x, "");
        due("1", x.fault(), 1);
        read(x, "t0");
        read(x, PLAIN);
        due("the latest, though a TOWN was read behind it", x.fault(), 2);
        x.feed(256);
        x.ride(99);
        due("what is refused is none", x.fault(), 2);
    }

    private static void ride() {
        says("9 ride: A STEP: MOOD then.");
        MoodFare x = of("t1,5;g9,0;j9,0;x0,1;x1,0;");
        due("the most", x.ride(0), 9);
        due("the least", x.ride(1), 0);
        says("9 ride: STATE: it is shut, or not from where he is AT");
        due("not from there", x.ride(1), STATE);
        x.street(0, 0);
        due("shut", x.ride(0), STATE);
        x.street(1, 0);
        due("shut and not from there", x.ride(1), STATE);
        same("no STEP by it", counts(x, 3, 4, 5, 6, 8), "2 0 0 4 13");
        x.street(0, 1);
        due("open again", x.ride(0), 9);
    }

    private static void rideToStep999() {
        // within 512 calls STEP 999 is not to be met: what is tested here lies beyond them
        says("9 ride: FULL: it is STEP 999.");
        MoodFare x = of("t1,5;g9,0;j9,0;x0,1;x1,0;");
        for (int n = 0; n < 998; n++) x.ride(n % 2);
        due("STEP 998", x.count(3), 998);
        due("the last", x.ride(0), 9);
        due("STEP 999", x.count(3), 999);
        due("one more", x.ride(1), FULL);
        due("STEP 999", x.count(3), 999);
        due("AT", x.count(4), 1);
        due("STATE is ahead of FULL", x.ride(0), STATE);
        due("BAD is ahead of FULL", x.ride(2), BAD);
        x.undo();
        due("undone, there is one", x.ride(0), 9);
    }

    private static void lesson() {
        says("10 lesson: MUCH (0 to 9): what it was.");
        MoodFare x = of("t1,0;j0,0;j4,3;x0,1;");
        due("-1", x.lesson(1, -1), BAD);
        due("0", x.lesson(1, 0), 4);
        due("would", x.would(0, 0), 0);
        due("9", x.lesson(1, 9), 0);
        due("would", x.would(0, 0), 9);
        due("10", x.lesson(1, 10), BAD);
        due("9 is there yet", x.lesson(1, 9), 9);
        due("FEE stays", x.corner(1, 1), 3);
        due("another CORNER's stays", x.corner(0, 0), 0);
        due("three ACTS", x.count(6), 3);
    }

    private static void reset() {
        says("11 reset: The METER is 0: what it was.");
        MoodFare x = of("t1,0;j0,1;j0,1;x0,1;x1,0;");
        due("0 already", x.reset(), 0);
        x.ride(0);
        due("1", x.reset(), 1);
        same("STEP, AT, MOOD, ACTS, METER", counts(x, 3, 4, 5, 6, 8), "1 1 0 3 0");
        x.ride(1);
        due("from 0 on", x.count(8), 1);
    }

    private static void street() {
        says("12 street: A STREET is shut (0), or open (1): STREETS that are open (bits).");
        MoodFare x = of(EIGHT);
        int open = 255;
        for (int s = 0; s < 8; s++) {
            open &= ~(1 << s);
            due("shut " + s, x.street(s, 0), open);
            due("count", x.count(9), open);
            due("way", x.way(s, 2), 0);
        }
        due("none is open", x.count(9), 0);
        for (int s = 7; s >= 0; s--) {
            open |= 1 << s;
            due("open " + s, x.street(s, 1), open);
            due("way", x.way(s, 2), 1);
        }
        says("12 street: STATE: it is so.");
        due("open", x.street(7, 1), STATE);
        due("16 ACTS", x.count(6), 16);
        x.street(7, 0);
        due("shut", x.street(7, 0), STATE);
        due("17 ACTS", x.count(6), 17);
    }

    private static void undo() {
        says("13 undo: The latest ACT is undone: how many can be undone yet. STATE: none.");
        MoodFare x = of(EIGHT);
        due("none at first", x.undo(), STATE);
        x.ride(0);
        x.ride(1);
        due("the latest", x.undo(), 1);
        same("STEP, AT, MOOD, METER", counts(x, 3, 4, 5, 8), "1 1 9 90");
        due("the last", x.undo(), 0);
        same("STEP, AT, MOOD, METER", counts(x, 3, 4, 5, 8), "0 0 0 0");
        due("none any more", x.undo(), STATE);
        x.ride(0);
        x.undo();
        due("undone is no ACT", x.count(6), 0);
        x.ride(0);
        x.image(0);
        x.restore(0);
        due("none, by an IMAGE", x.undo(), STATE);
        same("stays", counts(x, 3, 4, 5, 8), "1 1 9 90");
    }

    private static void corner() {
        says("14 corner: 0 MUCH, 1 FEE, 2 STREETS (bits) from it, 3 STREETS to it, 4 what MOOD would be, did he PASS it now.");
        MoodFare x = of(EIGHT);
        int[][] want = {{9, 9, 1, 66, 0}, {9, 9, 6, 129, 9}, {0, 0, 8, 4, 0}, {0, 0, 16, 8, 0}, {0, 0, 32, 16, 0}, {0, 0, 192, 32, 0}};
        for (int c = 0; c < 6; c++) for (int what = 0; what < 5; what++) due(c + " " + what, x.corner(c, what), want[c][what]);
        MoodFare y = of("t1,3;h2,0;h0,0;x0,1;x1,0;");
        due("haste, STEP 0", y.corner(0, 4), 3);
        y.ride(0);
        due("haste, STEP 1", y.corner(0, 4), 5);
        due("where he is, too", y.corner(1, 4), 3);
        y.street(0, 0);
        due("a shut one is from it yet", y.corner(0, 2), 1);
        due("a shut one is to it yet", y.corner(1, 3), 1);
        MoodFare z = of("t1,3;j0,0;");
        due("no STREET from it", z.corner(0, 2), 0);
        due("no STREET to it", z.corner(0, 3), 0);
    }

    private static void way() {
        says("15 way: 0 FROM, 1 TO, 2 whether open (1, 0).");
        MoodFare x = of(EIGHT);
        int[] froms = {0, 1, 1, 2, 3, 4, 5, 5}, tos = {1, 0, 2, 3, 4, 5, 0, 1};
        for (int s = 0; s < 8; s++) {
            due("FROM", x.way(s, 0), froms[s]);
            due("TO", x.way(s, 1), tos[s]);
            due("open", x.way(s, 2), 1);
        }
    }

    private static void would() {
        says("16 would: NONE: shut, or not from there.");
        MoodFare x = of(EIGHT);
        for (int what = 0; what <= 1; what++) {
            for (int s = 1; s < 8; s++) due("not from there", x.would(s, what), NONE);
            due("from there", x.would(0, what), what == 0 ? 9 : 90);
        }
        x.street(0, 0);
        due("shut", x.would(0, 0), NONE);
        due("shut", x.would(0, 1), NONE);
        due("shut and not from there", x.street(1, 0) == 252 ? x.would(1, 0) : 0, NONE);
    }

    private static void reachAndWays() {
        says("17 to 21: from where he is AT, with the MOOD and on the STEP that he has now");
        MoodFare x = of("t1,1;j0,0;h3,0;l2,0;x0,1;x1,2;x2,0;x2,1;");
        x.ride(0);
        x.ride(1);
        same("STEP, AT, MOOD", counts(x, 3, 4, 5), "2 2 3");
        due("reach", x.reach(), 7);
        due("cheapest, on an even STEP", x.cheapest(1, -1), 0);
        due("by STREET 3", x.cheapest(1, 0), 3);
        due("dearest, two STEPS: by 2, 0", x.dearest(2, -1), 3);
        due("where", x.dearest(2, -2), 1);
        due("moods", x.moods(1, 1), 8);
        due("gets, 5 by 3, 1", x.gets(5, -1), 2);
        due("gets, 6 by 2, 0", x.gets(6, 0), 2);
    }

    private static void image() {
        says("27 image: An IMAGE (0, 1) is kept of the TOWN: 1.");
        MoodFare x = of(EIGHT);
        due("IMAGE 0", x.image(0), 1);
        x.ride(0);
        due("IMAGE 1", x.image(1), 1);
        due("ACTS stay", x.count(6), 1);
        x.ride(1);
        x.lesson(0, 0);
        due("IMAGE 0", x.restore(0), 1);
        same("STEP, AT, MOOD, METER", counts(x, 3, 4, 5, 8), "0 0 0 0");
        due("IMAGE 1", x.restore(1), 1);
        same("STEP, AT, MOOD, METER", counts(x, 3, 4, 5, 8), "1 1 9 90");
        due("in place of the one before", x.image(0), 1);
        read(x, "t1,1;j0,0;");
        due("IMAGE 0", x.restore(0), 1);
        same("STEP, AT, MOOD, METER", counts(x, 3, 4, 5, 8), "1 1 9 90");
    }

    private static void restore() {
        says("28 restore: The TOWN is as an IMAGE kept it (no ACT can be undone then): 1.");
        MoodFare x = of(EIGHT);
        x.ride(0);
        x.lesson(2, 5);
        x.street(7, 0);
        x.image(1);
        read(x, "t1,7;r0,3;l4,5;x1,0;");
        x.street(0, 0);
        for (int times = 0; times < 2; times++) {
            due("as it was", x.restore(1), 1);
            same("counts", counts(x, 1, 2, 3, 4, 5, 6, 8, 9), "6 8 1 1 9 0 90 127");
            due("MUCH", x.corner(2, 0), 5);
            due("FEE", x.corner(0, 1), 9);
            due("KIND", x.kind(0), 4);
            due("FROM", x.way(7, 0), 5);
            due("TO", x.way(7, 1), 1);
            due("RATE", x.would(1, 1), 90);
            due("no ACT", x.undo(), STATE);
            x.ride(1);
            x.lesson(2, 1);
            x.street(7, 1);
        }
        due("rides behind it can be undone", x.undo(), 2);
        says("28 restore: STATE: none was kept.");
        due("the other one", x.restore(0), STATE);
        due("ACTS stay", x.count(6), 2);
        says("28 restore: ROWS, THE TAPE, FAULT and THE TRACE are no part of the TOWN");
        MoodFare y = of("t1,0;j0,0;");
        y.image(0);
        y.row(0, 0, 3);
        read(y, "t0");
        y.feed('t');
        y.ask(0, 1);
        y.drop(5);
        y.restore(0);
        same("ROWS, bytes", counts(y, 0, 7), "1 1");
        due("fault", y.fault(), 2);
        due("THE TRACE", y.trace(0), 21);
        due("status", y.status(), 1);
    }

    private static void kindAndAs() {
        says("29 kind: The KIND of a CORNER, as told (1 to 5).");
        MoodFare x = of("t1,1;r0,0;g0,0;h0,0;l0,0;j0,0;r0,0;");
        int[] kinds = {5, 4, 3, 2, 1, 5};
        for (int c = 0; c < 6; c++) due("KIND", x.kind(c), kinds[c]);
        says("30 as: A CORNER is taken as one of a KIND (0 .. 5): its number.");
        for (int c = 0; c < 6; c++) {
            due("as a CORNER", x.as(c, 0), c);
            due("as what it is", x.as(c, kinds[c]), c);
            due("is what it was", x.kind(c), kinds[c]);
        }
        due("-1", x.as(0, -1), BAD);
        due("6", x.as(0, 6), BAD);
    }

    private static void ask() {
        says("31 ask: THE TRACE is empty ahead of it.");
        MoodFare x = of("t1,1;l0,0;g0,0;");
        x.ask(0, 0);
        due("six BODIES", x.trace(5), 20);
        x.ask(1, 0);
        due("two BODIES", x.trace(1), 10);
        for (int i = 2; i <= 6; i++) due("none of those before", x.trace(i), NONE);
        says("31 ask: MUCH as it is by a lesson");
        x.lesson(0, 9);
        due("SIZE", x.ask(0, 0), -18);
        due("MARK", x.ask(0, 1), 18);
        x.undo();
        due("MARK, undone", x.ask(0, 1), 0);
    }

    private static void trace() {
        says("32 trace: Number i of THE TRACE; NONE.");
        MoodFare x = of("t1,1;j0,0;");
        due("ahead of an ask", x.trace(0), NONE);
        x.ask(0, 1);
        due("the first", x.trace(0), 21);
        due("the last", x.trace(1), 20);
        due("beyond", x.trace(2), NONE);
        due("below", x.trace(-1), NONE);
        due("the least", x.trace(Integer.MIN_VALUE), NONE);
        due("the most", x.trace(Integer.MAX_VALUE), NONE);
        read(x, "t1,1;g0,0;");
        due("stays when another TOWN is read", x.trace(0), 21);
    }

    private static void countAtLeast() {
        says("33 count: the least that there can be, with a TOWN");
        MoodFare x = of("t1,0;j0,0;");
        same("counts", counts(x, 0, 1, 2, 3, 4, 5, 6, 7, 8, 9), "0 1 0 0 0 0 0 0 0 0");
    }

    private static void countAtMost() {
        says("33 count: 0 ROWS, 1 CORNERS, 2 STREETS, 3 the STEP, 4 where he is AT, 5 MOOD, 6 ACTS that can be undone, "
            + "7 bytes on the tape, 8 the METER, 9 STREETS that are open (bits): the most that there can be");
        MoodFare x = of(EIGHT);
        for (int row = 0; row < 8; row++) x.row(row, 0, row);
        for (int n = 0; n < 113; n++) x.ride(n % 2);
        for (int s = 2; s < 6; s++) x.ride(s);
        for (int n = 0; n < 120; n++) x.feed('t');
        same("counts", counts(x, 0, 1, 2, 3, 4, 5, 6, 7, 8, 9), "8 6 8 117 5 9 24 120 9999 255");
        due("-1", x.count(-1), BAD);
        due("10", x.count(10), BAD);
    }

    private static void statusIs(MoodFare x, String call, int answer, int want) {
        due(call + " that answered " + answer, x.status(), want);
    }

    private static void status() {
        says("34 status: Of the latest call with a ROW, or as(): the number of its FINDING; 0: it had none, or there was none.");
        MoodFare x = of(PLAIN);
        statusIs(x, "no call", 0, 0);
        lay(x, 0, 0);
        lay(x, 1, 9);
        x.row(2, 0, 1);
        for (int row = 0; row < 9; row++) {
            x.row(5, 0, -1);
            statusIs(x, "SIZE", SIZE, 4);
            switch (row) {
                case 0 -> statusIs(x, "row", x.row(3, 0, 0), 0);
                case 1 -> statusIs(x, "set", x.set(0, 0, 0), 0);
                case 2 -> statusIs(x, "copy", x.copy(0, 0, 0, 0, 0), 0);
                case 3 -> statusIs(x, "drop", x.drop(3), 0);
                case 4 -> statusIs(x, "fits", x.fits(1, 0, 0, 0, 1, 0), 0);
                case 5 -> statusIs(x, "fitsOf", x.fitsOf(0, 1, 0, 0, 0, 1, 0), 0);
                case 6 -> statusIs(x, "share", x.share(0, 0, 1, 0), 0);
                case 7 -> statusIs(x, "share, NONE", x.share(1, 0, 1, 0), 0);
                default -> statusIs(x, "as", x.as(0, 0), 0);
            }
        }
        statusIs(x, "set", x.set(3, 0, 0), 1);
        statusIs(x, "set", x.set(0, 1, 0), 2);
        statusIs(x, "copy", x.copy(0, 0, 3, 0, 0), 1);
        statusIs(x, "copy", x.copy(0, 0, 2, 0, 0), 5);
        statusIs(x, "copy", x.copy(0, 0, 0, 0, 2), 2);
        statusIs(x, "drop", x.drop(3), 1);
        statusIs(x, "fits", x.fits(0, 1, 0, 0, 1, 0), 2);
        statusIs(x, "fits", x.fits(3, 0, 0, 0, 1, 0), 1);
        statusIs(x, "as", x.as(0, 2), 3);
        statusIs(x, "fitsOf", x.fitsOf(0, 0, 0, 0, 1, 1, 0), 2);
        statusIs(x, "fitsOf", x.fitsOf(0, 0, 0, 3, 0, 1, 0), 1);
        statusIs(x, "row", x.row(0, 0, -1), 4);
        statusIs(x, "share", x.share(0, 1, 1, 0), 2);
        statusIs(x, "share", x.share(3, 0, 1, 0), 1);
    }

    private static void statusOfOtherCalls() {
        says("34 status: (a call with a ROW, or as()) that was not BAD, STATE, FULL");
        MoodFare x = of(PLAIN);
        x.row(0, 0, -1);
        statusIs(x, "row", x.row(8, 0, 0), 4);
        statusIs(x, "set", x.set(8, 0, 0), 4);
        statusIs(x, "copy", x.copy(8, 0, 0, 0, 0), 4);
        statusIs(x, "drop", x.drop(8), 4);
        statusIs(x, "fits", x.fits(8, 0, 0, 0, 1, 0), 4);
        statusIs(x, "fitsOf", x.fitsOf(0, 8, 0, 0, 0, 1, 0), 4);
        statusIs(x, "share", x.share(8, 0, 1, 0), 4);
        statusIs(x, "as", x.as(0, 6), 4);
        says("34 status: a call without a ROW is none of those");
        int[] answers = {x.feed('t'), x.town(), x.fault(), x.ride(0), x.lesson(0, 1), x.reset(), x.street(0, 0), x.undo(),
            x.corner(0, 0), x.way(0, 0), x.would(1, 0), x.reach(), x.cheapest(0, -1), x.dearest(1, -1), x.moods(0, 1), x.gets(1, 0),
            x.shut(0, 0, 0, 0), x.drawn(1, 1, 0), x.image(0), x.restore(0), x.restore(1), x.kind(0), x.ask(0, 0), x.trace(0), x.count(0)};
        statusIs(x, "those, the last", answers[answers.length - 1], 4);
        MoodFare y = new MoodFare();
        y.row(0, 0, -1);
        statusIs(y, "fits without a TOWN", y.fits(0, 0, 0, 0, 1, 0), 4);
        statusIs(y, "share without a TOWN", y.share(0, 0, 1, 0), 4);
        statusIs(y, "fitsOf without a TOWN", y.fitsOf(0, 0, 0, 0, 0, 1, 0), 4);
        statusIs(y, "as without a TOWN", y.as(0, 0), 4);
    }
}

/** For each promise: ordinary inputs, the edges that the document names, wrong inputs. Answers worked out by hand. */
public final class PromiseTest extends Checks {
    public static void main(String[] args) {
        aNewObject();
        row();
        set();
        copy();
        drop();
        feed();
        town();
        townFaults();
        fault();
        ride();
        rideByKinds();
        rideToTheMost();
        lesson();
        reset();
        street();
        undo();
        corner();
        way();
        would();
        reach();
        cheapest();
        eightStepsAtMost();
        dearest();
        moods();
        gets();
        fits();
        fitsOf();
        share();
        shut();
        drawn();
        images();
        kindAndAs();
        asks();
        count();
        status();
        end();
    }

    private static void aNewObject() {
        MoodFare x = new MoodFare();
        for (int what = 0; what <= 9; what++) due(1, "count " + what, x.count(what), 0);
        due(1, "status", x.status(), 0);
        due(1, "fault", x.fault(), 0);
        due(1, "trace", x.trace(0), NONE);
        due(1, "restore", x.restore(1), STATE);
        due(1, "undo", x.undo(), STATE);
        for (int r = 0; r < 8; r++) due(1, "drop", x.drop(r), NULL);
    }

    private static void row() {
        MoodFare x = of(PLAIN);
        due(2, "least", x.row(0, 0, 0), 0);
        due(2, "most", x.row(7, 2, 40), 40);
        due(2, "no row", x.row(8, 0, 1), BAD);
        due(2, "no row below", x.row(-1, 0, 1), BAD);
        due(2, "lane below", x.row(0, -1, 1), BAD);
        due(2, "lane above", x.row(0, 3, 1), BAD);
        due(2, "41", x.row(0, 0, 41), BAD);
        due(2, "fewer than none", x.row(0, 0, -1), SIZE);
        due(2, "far fewer", x.row(0, 0, Integer.MIN_VALUE), SIZE);
        due(2, "BAD ahead of SIZE", x.row(0, 3, -1), BAD);
        due(2, "refused: all stays", x.drop(0), 0);
        x.row(1, 0, 1);
        x.set(1, 0, 1);
        due(2, "in its place", x.row(1, 1, 2), 2);
        due(2, "items are 0 again: street 0", x.share(1, 0, 1, 0), 4);
        due(2, "lane is another", x.set(1, 1, 300), 300);
    }

    private static void set() {
        MoodFare x = new MoodFare();
        for (int lane = 0; lane < 3; lane++) x.row(lane, lane, 3);
        due(3, "byte", x.set(0, 0, 127), 127);
        due(3, "byte wraps", x.set(0, 0, 128), -128);
        due(3, "byte of many bits", x.set(0, 2, 0x12345678), 0x78);
        due(3, "short", x.set(1, 0, 32767), 32767);
        due(3, "short wraps", x.set(1, 0, 32768), -32768);
        due(3, "int", x.set(2, 2, Integer.MIN_VALUE), Integer.MIN_VALUE);
        due(3, "beyond", x.set(0, 3, 1), PLACE);
        due(3, "below", x.set(0, -1, 1), PLACE);
        due(3, "missing", x.set(3, 0, 1), NULL);
        due(3, "missing ahead of place", x.set(3, -1, 1), NULL);
        due(3, "no row", x.set(8, 0, 1), BAD);
        due(3, "no row below", x.set(-1, 0, 1), BAD);
    }

    private static void copy() {
        MoodFare x = of(PLAIN);
        lay(x, 0, 0, 1, 2, 9, 9);
        due(4, "upwards onto itself", x.copy(0, 0, 0, 1, 3), 3);
        due(4, "as they were ahead", x.share(0, 1, 3, 0), 11);
        due(4, "downwards onto itself", x.copy(0, 1, 0, 0, 3), 3);
        due(4, "as they were ahead", x.share(0, 0, 3, 0), 11);
        lay(x, 1, 9, 9, 9, 9, 9);
        due(4, "to another", x.copy(0, 0, 1, 2, 3), 3);
        due(4, "came there", x.share(1, 2, 3, 0), 11);
        due(4, "none at the end", x.copy(0, 5, 1, 5, 0), 0);
        due(4, "i beyond", x.copy(0, 3, 1, 0, 3), PLACE);
        due(4, "j beyond", x.copy(0, 0, 1, 3, 3), PLACE);
        due(4, "i below", x.copy(0, -1, 1, 0, 1), PLACE);
        due(4, "j below", x.copy(0, 0, 1, -1, 1), PLACE);
        due(4, "n below", x.copy(0, 0, 1, 0, -1), PLACE);
        due(4, "n huge", x.copy(0, 1, 1, 1, Integer.MAX_VALUE), PLACE);
        due(4, "i huge", x.copy(0, Integer.MAX_VALUE, 1, 0, 1), PLACE);
        x.row(2, 0, 5);
        due(4, "two lanes", x.copy(0, 0, 2, 0, 1), STORE);
        due(4, "STORE ahead of PLACE", x.copy(0, 0, 2, 0, -1), STORE);
        due(4, "missing", x.copy(0, 0, 3, 0, 1), NULL);
        due(4, "NULL ahead of PLACE", x.copy(3, -1, 0, 0, 1), NULL);
        due(4, "no row", x.copy(0, 0, 8, 0, 1), BAD);
        due(4, "no row", x.copy(-1, 0, 3, 0, 1), BAD);
    }

    private static void drop() {
        MoodFare x = new MoodFare();
        x.row(4, 1, 17);
        due(5, "had", x.drop(4), 17);
        due(5, "missing", x.drop(4), NULL);
        due(5, "set", x.set(4, 0, 0), NULL);
        due(5, "no row", x.drop(8), BAD);
        due(5, "no row below", x.drop(-1), BAD);
    }

    private static void feed() {
        MoodFare x = new MoodFare();
        due(6, "least", x.feed(0), 1);
        due(6, "most", x.feed(255), 2);
        due(6, "below", x.feed(-1), BAD);
        due(6, "above", x.feed(256), BAD);
        for (int n = 3; n <= 120; n++) due(6, "feed", x.feed('t'), n);
        due(6, "no room", x.feed('t'), FULL);
        due(6, "BAD ahead of FULL", x.feed(256), BAD);
        due(6, "count", x.count(7), 120);
        due(6, "read", x.town(), -1000100);
        due(6, "empty then", x.feed('t'), 1);
    }

    private static void town() {
        MoodFare x = new MoodFare();
        due(7, "no streets", read(x, "t9,0;g0,9;"), 0);
        due(7, "corners", x.count(1), 1);
        due(7, "mood", x.count(5), 0);
        due(7, "plain", read(x, PLAIN), 7);
        due(7, "tape", x.count(7), 0);
        x.ride(3);
        x.street(0, 0);
        due(7, "two figures", read(x, "t09,07;j00,01;l02,3;x00,01;x1,0;"), 2);
        due(7, "at", x.count(4), 0);
        due(7, "mood", x.count(5), 7);
        due(7, "meter", x.count(8), 0);
        due(7, "step", x.count(3), 0);
        due(7, "open", x.count(9), 3);
        due(7, "acts", x.count(6), 0);
        due(7, "undo", x.undo(), STATE);
        String six = "t1,1;j0,0;l0,0;h0,0;g0,0;r0,0;j9,9;";
        due(7, "as much as there is room for",
            read(x, six + "x0,1;x0,2;x0,3;x0,4;x0,5;x1,0;x2,0;x3,0;"), 8);
        due(7, "open", x.count(9), 255);
        x.ride(2);
        due(7, "a FAULT", read(x, "t1,1;j0,0;x"), -1000111);
        due(7, "all stays: corners", x.count(1), 6);
        due(7, "all stays: at", x.count(4), 3);
        due(7, "all stays: acts", x.count(6), 1);
        due(7, "all stays: ways", x.way(4, 1), 5);
    }

    private static void oneFault(String text, int place, int number) {
        MoodFare x = new MoodFare();
        due(7, text, read(x, text), -1000100 - place);
        due(8, text, x.fault(), number);
        due(7, "no town by " + text, x.count(1), 0);
    }

    private static void townFaults() {
        oneFault("", 0, 1);
        oneFault("t", 1, 1);
        oneFault("T1,1;j0,0;", 0, 1);
        oneFault(" t1,1;j0,0;", 0, 1);
        oneFault("t,1;", 1, 1);
        oneFault("t100,1;", 1, 1);
        oneFault("t0000", 1, 1);
        oneFault("t10,1;", 1, 2);
        oneFault("t0,1;", 1, 2);
        oneFault("t00,1;", 1, 2);
        oneFault("t1;1;", 2, 1);
        oneFault("t1,", 3, 1);
        oneFault("t1,10;", 3, 2);
        oneFault("t1,100;", 3, 1);
        oneFault("t1,1,", 4, 1);
        oneFault("t1,1;", 5, 1);
        oneFault("t1,1;x0,1;", 5, 1);
        oneFault("t1,1;a0,1;", 5, 1);
        oneFault("t1,1;t1,1;", 5, 1);
        oneFault("t1,1;10", 5, 1);
        oneFault("t1,1;j10,0;", 6, 2);
        oneFault("t1,1;j0,10;", 8, 2);
        oneFault("t1,1;j0,0", 9, 1);
        oneFault("t1,1;j0,0;q", 10, 1);
        oneFault("t1,1;j0,0;\u00e9", 10, 1);
        oneFault("t1,1;j0,0;t", 10, 1);
        String six = "t1,1;j0,0;l0,0;h0,0;g0,0;r0,0;j9,9;";
        oneFault(six + "j", 35, 3);
        oneFault(six + "r1000", 35, 3);
        oneFault(six + "k", 35, 1);
        oneFault(six + "x0,1;j0,0;", 40, 1);
        oneFault(six + "x6,1;", 36, 2);
        oneFault(six + "x0,6;", 38, 2);
        oneFault(six + "x0,0;", 38, 2);
        oneFault(six + "x000,1;", 36, 1);
        oneFault(six + "x0,001;", 38, 1);
        oneFault(six + "x0,1;x0,1;", 43, 2);
        oneFault(six + "x0,1;x00,01;", 44, 2);
        oneFault(six + "x0,1;x1,0;x0", 47, 1);
        String eight = six + "x0,1;x1,0;x0,2;x2,0;x0,3;x3,0;x0,4;x4,0;";
        oneFault(eight + "x0,5;", 75, 3);
        oneFault(eight + "x", 75, 3);
        oneFault(eight + "j", 75, 1);
        oneFault(eight + ";", 75, 1);
    }

    private static void fault() {
        MoodFare x = new MoodFare();
        due(8, "before one", x.fault(), 0);
        read(x, PLAIN);
        due(8, "before one", x.fault(), 0);
        read(x, "t0");
        due(8, "a number", x.fault(), 2);
        read(x, PLAIN);
        due(8, "the latest", x.fault(), 2);
        read(x, "");
        due(8, "another", x.fault(), 1);
    }

    private static void ride() {
        MoodFare x = of(PLAIN);
        due(9, "shut or not from there", x.ride(1), STATE);
        due(9, "no such", x.ride(7), BAD);
        due(9, "no such below", x.ride(-1), BAD);
        due(9, "step", x.ride(0), 5);
        due(9, "at", x.count(4), 1);
        due(9, "mood", x.count(5), 5);
        due(9, "meter", x.count(8), 9);
        due(9, "step", x.count(3), 1);
        x.street(1, 0);
        due(9, "shut", x.ride(1), STATE);
        due(9, "stays", x.count(3), 1);
        x.street(1, 1);
        due(9, "open again", x.ride(1), 9);
        due(9, "meter", x.count(8), 22);
        due(9, "no town", new MoodFare().ride(0), BAD);
    }

    /** Passes one corner, ahead of it another that does nothing, if the STEP is to be odd. */
    private static void one(String kind, int mood, int step, int want) {
        MoodFare x = of("t2," + mood + ";j0,0;j0,0;" + kind + ",7;x0,1;x1,2;x0,2;");
        if (step == 1) x.ride(0);
        due(9, kind + " of " + mood, x.ride(step == 1 ? 1 : 2), want);
        due(9, kind + " of " + mood + " costs", x.count(8), Math.abs(want - mood) * 2 + 7);
    }

    private static void rideByKinds() {
        one("j3", 4, 0, 7);
        one("j3", 7, 0, 9);
        one("l2", 4, 0, 6);
        one("l2", 5, 0, 9);
        one("l1", 5, 0, 7);
        one("l9", 0, 0, 9);
        one("h3", 4, 0, 4);
        one("h3", 4, 1, 7);
        one("h3", 8, 1, 9);
        one("g3", 4, 0, 1);
        one("g5", 4, 0, 0);
        one("r3", 8, 0, 2);
        one("r1", 8, 0, 3);
        one("r9", 8, 0, 0);
        one("r0", 9, 0, 4);
    }

    private static void rideToTheMost() {
        MoodFare x = of("t9,0;j9,8;g9,8;x0,1;x1,0;");
        for (int n = 0; n < 113; n++) x.ride(n % 2);
        due(9, "8 and 112 times 89", x.count(8), 9976);
        due(9, "costs all the same", x.would(1, 1), 89);
        x.ride(1);
        due(9, "at most", x.count(8), 9999);
        x.ride(0);
        due(9, "at most yet", x.count(8), 9999);
        due(26, "at most", x.drawn(5, 1, 0), 9999);
        x.undo();
        x.undo();
        due(13, "as it was", x.count(8), 9976);
        // beyond the 512 calls that are promised: the limit is not to be met within them
        for (int n = 113; n < 999; n++) due(9, "ride " + n, x.ride(n % 2), n % 2 == 0 ? 0 : 9);
        due(9, "STEP", x.count(3), 999);
        due(9, "no STEP more", x.ride(1), FULL);
        due(9, "STATE ahead of FULL", x.ride(0), STATE);
    }

    private static void lesson() {
        MoodFare x = of(PLAIN);
        due(10, "what it was", x.lesson(1, 9), 3);
        due(10, "then", x.corner(1, 0), 9);
        due(10, "to itself", x.lesson(1, 9), 9);
        due(10, "an act each", x.count(6), 2);
        due(10, "least", x.lesson(4, 0), 2);
        due(10, "ride", x.ride(0), 9);
        due(10, "above", x.lesson(0, 10), BAD);
        due(10, "below", x.lesson(0, -1), BAD);
        due(10, "no corner", x.lesson(5, 1), BAD);
        due(10, "no corner below", x.lesson(-1, 1), BAD);
    }

    private static void reset() {
        MoodFare x = of(PLAIN);
        x.ride(0);
        due(11, "what it was", x.reset(), 9);
        due(11, "then", x.count(8), 0);
        due(11, "mood stays", x.count(5), 5);
        due(11, "again", x.reset(), 0);
        due(11, "acts", x.count(6), 3);
        due(11, "no town", new MoodFare().reset(), STATE);
    }

    private static void street() {
        MoodFare x = of(PLAIN);
        due(12, "open already", x.street(0, 1), STATE);
        due(12, "shut", x.street(6, 0), 63);
        due(12, "shut", x.street(0, 0), 62);
        due(12, "shut already", x.street(0, 0), STATE);
        due(12, "open", x.street(6, 1), 126);
        due(12, "no street", x.street(7, 1), BAD);
        due(12, "no street below", x.street(-1, 1), BAD);
        due(12, "on above", x.street(0, 2), BAD);
        due(12, "on below", x.street(0, -1), BAD);
        due(12, "acts", x.count(6), 3);
    }

    private static void undo() {
        MoodFare x = of(PLAIN);
        due(13, "none", x.undo(), STATE);
        x.ride(0);
        x.lesson(2, 1);
        x.reset();
        x.street(1, 0);
        x.street(1, 1);
        due(13, "open again", x.undo(), 4);
        due(13, "is shut", x.way(1, 2), 0);
        due(13, "shut", x.undo(), 3);
        due(13, "is open", x.way(1, 2), 1);
        due(13, "reset", x.undo(), 2);
        due(13, "meter", x.count(8), 9);
        due(13, "lesson", x.undo(), 1);
        due(13, "much", x.corner(2, 0), 4);
        due(13, "step", x.undo(), 0);
        due(13, "at", x.count(4), 0);
        due(13, "mood", x.count(5), 2);
        due(13, "meter", x.count(8), 0);
        due(13, "step", x.count(3), 0);
        due(13, "none", x.undo(), STATE);
        for (int v = 0; v < 30; v++) x.lesson(0, v % 10);
        due(13, "24 are kept", x.count(6), 24);
        for (int n = 23; n >= 0; n--) due(13, "undo", x.undo(), n);
        due(13, "the oldest are forgotten", x.corner(0, 0), 5);
        due(13, "none", x.undo(), STATE);
    }

    private static void corner() {
        MoodFare x = of(PLAIN);
        int[][] all = {{1, 2, 9, 36, 3}, {3, 0, 2, 1, 5}, {4, 1, 68, 2, 2}, {5, 3, 16, 8, 0}, {2, 4, 32, 80, 0}};
        for (int c = 0; c < 5; c++) {
            for (int what = 0; what < 5; what++) due(14, "corner", x.corner(c, what), all[c][what]);
        }
        x.street(0, 0);
        due(14, "shut ones, too", x.corner(0, 2), 9);
        x.street(0, 1);
        x.ride(0);
        due(14, "haste, odd now", x.corner(2, 4), 9);
        due(14, "love, above 4 now", x.corner(1, 4), 9);
        due(14, "ruin", x.corner(4, 4), 1);
        due(14, "nothing changes", x.count(5), 5);
        due(14, "what", x.corner(0, 5), BAD);
        due(14, "what below", x.corner(0, -1), BAD);
        due(14, "no corner", x.corner(5, 0), BAD);
        due(14, "no corner below", x.corner(-1, 0), BAD);
    }

    private static void way() {
        MoodFare x = of(PLAIN);
        due(15, "from", x.way(6, 0), 2);
        due(15, "to", x.way(6, 1), 4);
        due(15, "open", x.way(6, 2), 1);
        x.street(6, 0);
        due(15, "shut", x.way(6, 2), 0);
        due(15, "no street", x.way(7, 0), BAD);
        due(15, "no street below", x.way(-1, 0), BAD);
        due(15, "what", x.way(0, 3), BAD);
        due(15, "what below", x.way(0, -1), BAD);
    }

    private static void would() {
        MoodFare x = of(PLAIN);
        due(16, "mood", x.would(3, 0), 0);
        due(16, "cost", x.would(3, 1), 9);
        due(16, "not from there", x.would(1, 0), NONE);
        x.street(3, 0);
        due(16, "shut", x.would(3, 1), NONE);
        due(16, "no street", x.would(7, 0), BAD);
        due(16, "what", x.would(0, 2), BAD);
        due(16, "what below, of one not from there", x.would(1, -1), BAD);
        x.ride(0);
        due(16, "odd", x.would(1, 1), 13);
        due(16, "nothing changes", x.count(8), 9);
    }

    private static void reach() {
        MoodFare x = of(PLAIN);
        due(17, "all", x.reach(), 31);
        x.street(0, 0);
        due(17, "by 3", x.reach(), 1 | 8 | 16);
        x.street(4, 0);
        due(17, "one further", x.reach(), 1 | 8);
        x.street(3, 0);
        due(17, "that one", x.reach(), 1);
        due(17, "no town", new MoodFare().reach(), STATE);
        MoodFare back = of("t1,1;j0,0;j0,0;j0,0;j0,0;j0,0;j0,0;x4,5;x3,4;x2,3;x1,2;x0,1;");
        due(17, "streets against their numbers", back.reach(), 63);
    }

    private static void cheapest() {
        // all ways cost nothing: 0, 4 and 3, 2 are the shortest to corner 3
        MoodFare x = of("t1,0;j0,0;j0,0;j0,0;g0,0;x0,1;x1,2;x2,3;x0,2;x1,3;x3,0;");
        due(18, "how much", x.cheapest(3, -1), 0);
        due(18, "the shortest", x.cheapest(3, -2), 2);
        due(18, "the first: 0, 4 ahead of 3, 2", x.cheapest(3, 0), 0);
        due(18, "the first", x.cheapest(3, 1), 4);
        due(18, "not so long", x.cheapest(3, 2), NONE);
        due(18, "where he is", x.cheapest(0, -2), 0);
        due(18, "where he is", x.cheapest(0, -1), 0);
        due(18, "where he is", x.cheapest(0, 0), NONE);
        x.street(2, 0);
        x.street(4, 0);
        due(18, "by none", x.cheapest(3, -1), NONE);
        due(18, "by none", x.cheapest(3, -2), NONE);
        due(18, "by none", x.cheapest(3, 0), NONE);
        due(18, "k below", x.cheapest(3, -3), BAD);
        due(18, "k above", x.cheapest(3, 8), BAD);
        due(18, "k most", x.cheapest(0, 7), NONE);
        due(18, "no corner", x.cheapest(4, 0), BAD);
        due(18, "no corner below", x.cheapest(-1, 0), BAD);
        // straight there the STEP is odd, so haste costs 81; by corner 0 it is even
        MoodFare y = of("t9,0;g0,0;h9,0;g0,1;x0,2;x2,0;x2,1;x0,1;");
        y.ride(0);
        due(18, "longer is cheaper", y.cheapest(1, -1), 0);
        due(18, "longer is cheaper", y.cheapest(1, -2), 2);
        due(18, "by corner 0", y.cheapest(1, 0), 1);
        y.street(3, 0);
        due(18, "straight", y.cheapest(1, -1), 81);
        MoodFare z = of("t9,0;g9,0;g0,9;h1,0;j1,0;x0,1;x0,2;x2,1;");
        due(18, "9 either way, the shorter", z.cheapest(1, -2), 1);
        MoodFare w = of("t9,0;g9,0;j9,0;g9,0;g9,9;x0,1;x1,3;x0,2;x2,3;");
        due(18, "less is ahead of first", w.cheapest(3, 0), 2);
        due(18, "how much", w.cheapest(3, -1), 9);
    }

    /** A ring of five corners, from which haste is free only on STEPS that are even ahead. */
    private static void eightStepsAtMost() {
        MoodFare x = of("t9,0;g0,0;g0,0;g0,0;g0,0;g0,0;h9,0;x0,1;x1,2;x2,3;x3,4;x4,0;x2,5;");
        for (int s = 0; s < 4; s++) x.ride(s);
        due(18, "round the ring there are 9 STEPS", x.cheapest(5, -1), 81);
        due(18, "so straight", x.cheapest(5, -2), 4);
        due(25, "round the ring there are 9 STEPS", x.shut(5, 0, 0, 0), 0);
        x.ride(4);
        due(18, "round the ring there are 8 STEPS", x.cheapest(5, -1), 0);
        due(18, "so round it", x.cheapest(5, -2), 8);
        due(18, "the last", x.cheapest(5, 7), 5);
        due(25, "round the ring there are 8 STEPS", x.shut(5, 0, 0, 0), 1);
    }

    private static void dearest() {
        MoodFare x = of(PLAIN);
        due(19, "how much", x.dearest(4, -1), 49);
        due(19, "where", x.dearest(4, -2), 0);
        due(19, "third", x.dearest(4, 2), 6);
        due(19, "n", x.dearest(4, 4), NONE);
        due(19, "none to go", x.dearest(0, -1), 0);
        due(19, "none to go", x.dearest(0, -2), 0);
        due(19, "first of two as dear", x.dearest(1, 0), 0);
        due(19, "n above", x.dearest(9, 0), BAD);
        due(19, "n below", x.dearest(-1, 0), BAD);
        due(19, "k above", x.dearest(1, 8), BAD);
        due(19, "k below", x.dearest(1, -3), BAD);
        due(19, "STATE ahead of BAD", new MoodFare().dearest(9, 8), STATE);
        MoodFare y = of("t1,0;j0,0;j0,0;x0,1;");
        due(19, "one", y.dearest(1, -2), 1);
        due(19, "by none", y.dearest(2, -1), NONE);
        due(19, "by none", y.dearest(2, -2), NONE);
        due(19, "by none", y.dearest(2, 0), NONE);
    }

    private static void moods() {
        MoodFare x = of(PLAIN);
        due(20, "3 steps", x.moods(0, 3), 514);
        due(20, "8 steps", x.moods(1, 8), 688);
        due(20, "now", x.moods(0, 0), 4);
        due(20, "now, elsewhere", x.moods(1, 0), 0);
        due(20, "n above", x.moods(0, 9), BAD);
        due(20, "n below", x.moods(0, -1), BAD);
        due(20, "no corner", x.moods(5, 0), BAD);
        due(20, "no corner below", x.moods(-1, 0), BAD);
    }

    private static void gets() {
        MoodFare x = of(PLAIN);
        due(21, "is so", x.gets(2, -1), 0);
        due(21, "is so", x.gets(2, 0), NONE);
        due(21, "3 steps", x.gets(1, -1), 3);
        due(21, "third", x.gets(1, 2), 5);
        due(21, "not so long", x.gets(1, 3), NONE);
        due(21, "two", x.gets(9, -1), 2);
        due(21, "second", x.gets(9, 1), 1);
        due(21, "k below", x.gets(2, -2), BAD);
        due(21, "k above", x.gets(2, 8), BAD);
        due(21, "mood above", x.gets(10, 0), BAD);
        due(21, "mood below", x.gets(-1, 0), BAD);
        due(21, "STATE ahead of BAD", new MoodFare().gets(10, 8), STATE);
        MoodFare y = of("t1,3;j0,0;j0,0;j1,0;x0,1;x1,2;x0,2;x2,0;");
        due(21, "the fewest, not the first", y.gets(4, 0), 2);
        due(21, "never", y.gets(2, -1), NONE);
        due(21, "never", y.gets(2, 0), NONE);
    }

    private static void fits() {
        MoodFare x = of(PLAIN);
        lay(x, 0, 9, 13, 2, 2, 0, 10);
        lay(x, 1, 0, 1, 2, 3, 7, -1);
        due(22, "was", x.fits(0, 0, 1, 0, 1, 0), 95);
        due(22, "rates", x.fits(0, 0, 1, 0, 1, 1), 8);
        due(22, "was, by two", x.fits(0, 0, 1, 0, 2, 0), 7);
        due(22, "was, by three", x.fits(0, 0, 1, 0, 3, 0), 4);
        due(22, "rates, by three", x.fits(0, 0, 1, 0, 3, 1), 8);
        due(22, "not from there", x.fits(0, 0, 1, 1, 1, 0), 0);
        due(22, "no such street", x.fits(0, 0, 1, 4, 1, 0), 0);
        due(22, "no such street below", x.fits(0, 0, 1, 5, 1, 0), 0);
        due(22, "the same row twice", x.fits(1, 0, 1, 0, 1, 0), 1 << 9);
        x.street(0, 0);
        due(22, "shut", x.fits(0, 0, 1, 0, 1, 0), 0);
        due(22, "n above", x.fits(0, 0, 1, 0, 9, 0), BAD);
        due(22, "n below", x.fits(0, 0, 1, 0, 0, 0), BAD);
        due(22, "what", x.fits(0, 0, 1, 0, 1, 2), BAD);
        due(22, "what below", x.fits(0, 0, 1, 0, 1, -1), BAD);
        due(22, "no row", x.fits(8, 0, 1, 0, 1, 0), BAD);
        due(22, "no other", x.fits(2, 0, -1, 0, 1, 0), BAD);
        due(22, "missing", x.fits(2, 0, 1, 0, 1, 0), NULL);
        due(22, "missing other", x.fits(0, 0, 2, 0, 1, 0), NULL);
        due(22, "place ahead of missing other", x.fits(0, 5, 2, 0, 2, 0), PLACE);
        due(22, "missing ahead of place of the other", x.fits(2, 0, 1, 6, 1, 0), NULL);
        due(22, "place below", x.fits(0, -1, 1, 0, 1, 0), PLACE);
        due(22, "place of the other", x.fits(0, 0, 1, 6, 1, 0), PLACE);
        due(22, "place huge", x.fits(0, Integer.MAX_VALUE, 1, 0, 8, 0), PLACE);
        due(22, "STATE ahead of BAD", new MoodFare().fits(8, 0, 1, 0, 9, 2), STATE);
        due(22, "nothing changes", x.count(3), 0);
    }

    private static void fitsOf() {
        MoodFare x = of(PLAIN);
        lay(x, 0, 9, 13, 2);
        lay(x, 1, 0, 1, 2);
        due(23, "sorts of 1", x.fitsOf(1, 0, 0, 1, 0, 1, 0), 6);
        due(23, "muches of 1", x.fitsOf(1, 0, 0, 1, 0, 1, 1), 8);
        due(23, "sorts of one not come to", x.fitsOf(4, 0, 0, 1, 0, 3, 0), 62);
        due(23, "muches of one not come to", x.fitsOf(4, 0, 0, 1, 0, 3, 1), 1023);
        due(23, "sorts of 2", x.fitsOf(2, 0, 0, 1, 0, 2, 0), 30);
        due(23, "muches of 2, at most 9", x.fitsOf(2, 0, 0, 1, 0, 2, 1), 1023 & ~15);
        due(23, "not from there", x.fitsOf(0, 0, 0, 1, 1, 1, 1), 0);
        due(23, "kind stays", x.kind(1), 2);
        due(23, "much stays", x.corner(1, 0), 3);
        due(23, "no corner", x.fitsOf(5, 0, 0, 1, 0, 1, 0), BAD);
        due(23, "no corner below", x.fitsOf(-1, 0, 0, 1, 0, 1, 0), BAD);
        due(23, "no row", x.fitsOf(0, 8, 0, 1, 0, 1, 0), BAD);
        due(23, "no other", x.fitsOf(0, 0, 0, 8, 0, 1, 0), BAD);
        due(23, "n above", x.fitsOf(0, 0, 0, 1, 0, 9, 0), BAD);
        due(23, "n below", x.fitsOf(0, 0, 0, 1, 0, 0, 0), BAD);
        due(23, "what", x.fitsOf(0, 0, 0, 1, 0, 1, 2), BAD);
        due(23, "missing", x.fitsOf(0, 2, 0, 1, 0, 1, 0), NULL);
        due(23, "missing other", x.fitsOf(0, 0, 0, 2, 0, 1, 0), NULL);
        due(23, "place ahead of missing other", x.fitsOf(0, 0, 3, 2, 0, 1, 0), PLACE);
        due(23, "place of the other", x.fitsOf(0, 0, 0, 1, -1, 1, 0), PLACE);
        due(23, "no town", new MoodFare().fitsOf(0, 0, 0, 1, 0, 1, 0), BAD);
    }

    private static void share() {
        MoodFare x = of(PLAIN);
        lay(x, 0, 0, 1, 2, 3, 9);
        due(24, "9 halved", x.share(0, 0, 1, 0), 4);
        due(24, "9 and 13 halved, each by itself", x.share(0, 0, 2, 0), 10);
        due(24, "from the second on", x.share(0, 0, 2, 1), 6);
        due(24, "from the last on", x.share(0, 0, 4, 3), 9);
        due(24, "can not be gone", x.share(0, 0, 5, 0), NONE);
        due(24, "can not be gone from there", x.share(0, 1, 1, 0), NONE);
        x.street(1, 0);
        due(24, "shut", x.share(0, 0, 2, 0), NONE);
        due(24, "k", x.share(0, 0, 2, 2), BAD);
        due(24, "k below", x.share(0, 0, 2, -1), BAD);
        due(24, "n above", x.share(0, 0, 9, 0), BAD);
        due(24, "n below", x.share(0, 0, 0, 0), BAD);
        due(24, "no row", x.share(8, 0, 1, 0), BAD);
        due(24, "missing", x.share(1, 0, 1, 0), NULL);
        due(24, "place", x.share(0, 4, 2, 0), PLACE);
        due(24, "place below", x.share(0, -1, 1, 0), PLACE);
        due(24, "STATE ahead of BAD", new MoodFare().share(8, 0, 9, 9), STATE);
        due(24, "nothing changes", x.count(8), 0);
    }

    private static void shutIs(MoodFare x, int corner, int q, int c, int above, int below) {
        String what = "shut " + corner + " " + q + " " + c;
        due(25, what + " above", x.shut(corner, q, c, 0), above);
        due(25, what + " below", x.shut(corner, q, c, 1), below);
    }

    private static void shut() {
        // to corner 2: straight for 5, or by corner 1 for 1 and 5
        MoodFare x = of("t1,0;g0,0;g0,1;g0,5;x0,1;x1,2;x0,2;x2,0;");
        shutIs(x, 2, 4, 3, 0, 1);
        shutIs(x, 2, 5, 3, 7, 10);
        shutIs(x, 2, 6, 3, 847, 1000);
        shutIs(x, 2, 999, 5, 5, 8);
        shutIs(x, 2, 6, 0, 1, 1);
        shutIs(x, 2, 6, 10, 0, 1);
        shutIs(x, 0, 0, 10, 1, 1);
        shutIs(x, 1, 1, 4, 3, 5);
        x.street(2, 0);
        shutIs(x, 2, 5, 3, 0, 1);
        shutIs(x, 2, 6, 3, 49, 100);
        due(25, "all stays", x.count(9), 11);
        due(25, "no corner", x.shut(3, 0, 0, 0), BAD);
        due(25, "no corner below", x.shut(-1, 0, 0, 0), BAD);
        due(25, "q below", x.shut(0, -1, 0, 0), BAD);
        due(25, "q above", x.shut(0, 1000, 0, 0), BAD);
        due(25, "c below", x.shut(0, 0, -1, 0), BAD);
        due(25, "c above", x.shut(0, 0, 11, 0), BAD);
        due(25, "what", x.shut(0, 0, 0, 2), BAD);
        due(25, "what below", x.shut(0, 0, 0, -1), BAD);
        // to 2: 0.981; to 3: 0.98829; to 4: 0.9889461; and the last street
        MoodFare all = of("t1,0;g0,1;g0,1;g0,1;g0,1;g0,1;g0,1;x0,1;x1,2;x2,3;x3,4;x4,5;x0,2;x0,3;x0,4;");
        shutIs(all, 5, 999, 1, 89005149, 100000000);
    }

    private static void drawn() {
        // X of seed 1: 16807, 282475249, 1622650073, 984943658
        MoodFare x = of("t1,0;g0,1;g0,2;g0,4;x0,1;x1,0;x0,2;x2,0;x1,2;");
        due(26, "none", x.drawn(0, 1, 0), 0);
        due(26, "none", x.drawn(0, 1, 1), 0);
        due(26, "16807 by 2: 1, street 2", x.drawn(1, 1, 1), 2);
        due(26, "costs", x.drawn(1, 1, 0), 4);
        due(26, "one way: street 3", x.drawn(2, 1, 1), 0);
        due(26, "1622650073 by 2: 1, street 2", x.drawn(3, 1, 1), 2);
        due(26, "costs", x.drawn(3, 1, 0), 9);
        due(26, "seed 2: 33614 by 2: 0, street 0", x.drawn(1, 2, 1), 1);
        due(26, "564950498 by 2: 0, street 1", x.drawn(2, 2, 1), 0);
        x.street(0, 0);
        due(26, "of open ones", x.drawn(1, 2, 1), 2);
        x.street(2, 0);
        due(26, "he stays", x.drawn(60, 7, 1), 0);
        x.street(2, 1);
        x.ride(2);
        due(26, "the METER, not what it grows by", x.drawn(1, 1, 0), 5);
        due(26, "nothing changes", x.count(3), 1);
        due(26, "the greatest seed, the only way", x.drawn(1, 999999, 1), 0);
        due(26, "n below", x.drawn(-1, 1, 0), BAD);
        due(26, "n above", x.drawn(61, 1, 0), BAD);
        due(26, "seed below", x.drawn(1, 0, 0), BAD);
        due(26, "seed above", x.drawn(1, 1000000, 0), BAD);
        due(26, "what", x.drawn(1, 1, 2), BAD);
        due(26, "what below", x.drawn(1, 1, -1), BAD);
        due(26, "STATE ahead of BAD", new MoodFare().drawn(61, 0, 2), STATE);
    }

    private static void images() {
        MoodFare x = new MoodFare();
        due(27, "no town", x.image(0), STATE);
        due(27, "BAD ahead of STATE", x.image(2), BAD);
        due(28, "none kept", x.restore(0), STATE);
        read(x, PLAIN);
        x.ride(0);
        x.lesson(0, 7);
        x.street(2, 0);
        due(27, "kept", x.image(1), 1);
        due(27, "acts stay", x.count(6), 3);
        x.ride(1);
        x.lesson(0, 1);
        x.street(2, 1);
        x.reset();
        read(x, "t1,9;j1,1;");
        due(28, "another was not kept", x.restore(0), STATE);
        due(28, "restored", x.restore(1), 1);
        due(28, "corners", x.count(1), 5);
        due(28, "step", x.count(3), 1);
        due(28, "at", x.count(4), 1);
        due(28, "mood", x.count(5), 5);
        due(28, "meter", x.count(8), 9);
        due(28, "open", x.count(9), 123);
        due(28, "much", x.corner(0, 0), 7);
        due(28, "cost by the same rate", x.would(1, 1), 13);
        due(28, "no act can be undone", x.undo(), STATE);
        x.ride(1);
        due(28, "again", x.restore(1), 1);
        due(28, "the image was not ridden", x.count(4), 1);
        due(27, "in its place", x.image(1), 1);
        due(27, "no image", x.image(-1), BAD);
        due(28, "no image", x.restore(-1), BAD);
        due(28, "no image", x.restore(2), BAD);
    }

    private static void kindAndAs() {
        MoodFare x = of(PLAIN);
        for (int c = 0; c < 5; c++) due(29, "kind", x.kind(c), c + 1);
        due(29, "no corner", x.kind(5), BAD);
        due(29, "no corner below", x.kind(-1), BAD);
        // by corner: the kinds that it is
        String[] are = {"01", "012", "013", "04", "045"};
        for (int c = 0; c < 5; c++) {
            for (int kind = 0; kind <= 5; kind++) {
                boolean is = are[c].indexOf('0' + kind) >= 0;
                due(30, "as " + c + " " + kind, x.as(c, kind), is ? c : KIND);
                due(34, "as " + c + " " + kind, x.status(), is ? 0 : 3);
            }
        }
        due(30, "no kind", x.as(0, 6), BAD);
        due(30, "no kind below", x.as(0, -1), BAD);
        due(30, "no corner", x.as(5, 0), BAD);
        due(30, "no corner below", x.as(-1, 0), BAD);
    }

    private static void asked(MoodFare x, int corner, int what, int answer, int... bodies) {
        due(31, "ask " + corner + " " + what, x.ask(corner, what), answer);
        for (int i = 0; i < bodies.length; i++) due(32, "trace of " + corner + " " + what, x.trace(i), bodies[i]);
        due(32, "trace ends", x.trace(bodies.length), NONE);
    }

    private static void asks() {
        MoodFare x = of(PLAIN);
        asked(x, 0, 0, 3, 11, 10, 21, 20);
        asked(x, 1, 0, -8, 12, 11, 10, 24, 21, 20);
        asked(x, 2, 0, -993, 11, 10, 22, 21, 20);
        asked(x, 3, 0, -97, 13, 10);
        asked(x, 4, 0, -192, 14, 13, 10);
        asked(x, 0, 1, 1, 21, 20);
        asked(x, 1, 1, 8, 24, 21, 20);
        asked(x, 2, 1, -994, 22, 21, 20);
        asked(x, 3, 1, 100, 23, 20, 13, 10);
        asked(x, 4, 1, 196, 23, 20, 14, 13, 10);
        x.lesson(4, 9);
        asked(x, 4, 1, 196, 23, 20, 14, 13, 10);
        due(31, "no corner", x.ask(5, 0), BAD);
        due(31, "no corner below", x.ask(-1, 0), BAD);
        due(31, "what", x.ask(0, 2), BAD);
        due(31, "what below", x.ask(0, -1), BAD);
        due(32, "stays when refused", x.trace(0), 23);
        due(32, "below", x.trace(-1), NONE);
        due(32, "least int", x.trace(Integer.MIN_VALUE), NONE);
        due(32, "far beyond", x.trace(16), NONE);
    }

    private static void count() {
        MoodFare x = of(PLAIN);
        x.row(3, 0, 0);
        x.row(6, 0, 9);
        x.row(6, 1, 9);
        x.feed('t');
        x.ride(0);
        x.street(6, 0);
        int[] all = {2, 5, 7, 1, 1, 5, 2, 1, 9, 63};
        for (int what = 0; what < all.length; what++) due(33, "count " + what, x.count(what), all[what]);
        due(33, "what", x.count(10), BAD);
        due(33, "what below", x.count(-1), BAD);
        x.drop(3);
        due(33, "rows", x.count(0), 1);
    }

    private static void statusIs(MoodFare x, String call, int answer, int want) {
        due(34, "status after " + call + " that answered " + answer, x.status(), want);
    }

    private static void status() {
        MoodFare x = of(PLAIN);
        statusIs(x, "none", 0, 0);
        statusIs(x, "set", x.set(0, 0, 0), 1);
        statusIs(x, "BAD set", x.set(8, 0, 0), 1);
        statusIs(x, "ride, without a row", x.ride(1), 1);
        statusIs(x, "town", x.town(), 1);
        statusIs(x, "row", x.row(0, 0, 3), 0);
        statusIs(x, "row", x.row(0, 0, -3), 4);
        statusIs(x, "BAD row", x.row(0, 3, 3), 4);
        statusIs(x, "set", x.set(0, 1, 3), 0);
        statusIs(x, "set", x.set(0, 3, 3), 2);
        x.row(1, 1, 3);
        statusIs(x, "copy", x.copy(0, 0, 1, 0, 0), 5);
        statusIs(x, "copy", x.copy(0, 0, 0, 0, 1), 0);
        statusIs(x, "drop", x.drop(2), 1);
        statusIs(x, "drop", x.drop(1), 0);
        statusIs(x, "share", x.share(0, 2, 2, 0), 2);
        statusIs(x, "share by none", x.share(0, 1, 2, 0), 0);
        statusIs(x, "fits", x.fits(0, 0, 7, 0, 1, 0), 1);
        statusIs(x, "BAD fits", x.fits(0, 0, 0, 0, 9, 0), 1);
        statusIs(x, "fits", x.fits(0, 0, 0, 0, 1, 0), 0);
        statusIs(x, "fitsOf", x.fitsOf(0, 0, 0, 0, 3, 1, 0), 2);
        statusIs(x, "fitsOf", x.fitsOf(0, 0, 0, 0, 0, 1, 0), 0);
        statusIs(x, "as", x.as(0, 2), 3);
        statusIs(x, "BAD as", x.as(0, 9), 3);
        statusIs(x, "ask", x.ask(0, 0), 3);
        statusIs(x, "as", x.as(0, 1), 0);
        MoodFare y = new MoodFare();
        y.drop(0);
        statusIs(y, "STATE fits", y.fits(0, 0, 0, 0, 1, 0), 1);
        statusIs(y, "STATE share", y.share(0, 0, 1, 0), 1);
    }
}

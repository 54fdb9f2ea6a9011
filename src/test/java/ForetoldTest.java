/** Each sentence of "## Terms", parts 3 and 4, that names a boundary: the last value as told, the first that is not. */
public final class ForetoldTest extends Checks {
    /** A ring of three; only CORNER 0 makes MOOD another, by 1. */
    private static final String RING = "t1,0;j1,0;j0,0;j0,0;x0,1;x1,2;x2,0;";
    /** There and back: STREET 0 costs 2, STREET 1 costs 1, MOOD stays. */
    private static final String SHUTTLE = "t1,0;j0,1;j0,2;x0,1;x1,0;";

    public static void main(String[] args) {
        oneStreet();
        openWays();
        cheapest();
        cheapestOfSeveral();
        cheapestInEight();
        dearest();
        dearestOfSeveral();
        moods();
        gets();
        getsInEight();
        oddSteps();
        eightItems();
        noOpenStreet();
        was();
        rates();
        sorts();
        muches();
        share();
        shut();
        shutByAnyWay();
        rides();
        ridesDrawn();
        kinds();
        sizes();
        marks();
        traces();
        end();
    }

    private static void oneStreet() {
        says("Of a STREET from where he is AT, open: MOOD then; what it would cost");
        MoodFare x = of("t9,0;g9,9;j9,9;j0,0;x0,1;x1,0;x0,2;");
        due("MOOD, the most", x.would(0, 0), 9);
        due("cost, the most", x.would(0, 1), 90);
        due("MOOD, the least", x.would(2, 0), 0);
        due("cost, the least", x.would(2, 1), 0);
        due("not from where he is", x.would(1, 0), NONE);
        x.ride(0);
        due("MOOD falls", x.would(1, 0), 0);
        due("a cost all the same", x.would(1, 1), 90);
        due("not from where he is any more", x.would(0, 1), NONE);
    }

    private static void openWays() {
        says("OPEN ways: CORNERS (bits) that can be come to from where he is AT by open STREETS (that one, too)");
        due("no STREETS", of("t1,0;j0,0;j0,0;").reach(), 1);
        MoodFare x = of("t1,0;j0,0;j0,0;j0,0;j0,0;j0,0;j0,0;x4,5;x3,4;x2,3;x1,2;x0,1;");
        due("five STREETS, one behind the other", x.reach(), 63);
        x.ride(4);
        due("not back", x.reach(), 62);
        x.street(0, 0);
        due("not by the last one", x.reach(), 30);
        x.street(3, 0);
        due("not by the next one", x.reach(), 2);
        MoodFare y = of("t1,0;j0,0;j0,0;j0,0;j0,0;j0,0;j0,0;x0,5;x5,4;x4,3;x3,2;x2,1;x1,0;");
        due("round", y.reach(), 63);
    }

    private static void cheapest() {
        says("CHEAPEST to a CORNER: 0 .. STEPS");
        MoodFare x = of(SHUTTLE);
        due("how much", x.cheapest(0, -1), 0);
        due("how many", x.cheapest(0, -2), 0);
        for (int k = 0; k <= 7; k++) due("the k-th", x.cheapest(0, k), NONE);
        says("CHEAPEST: how much; how many; the k-th; NONE: by none");
        due("how much", x.cheapest(1, -1), 2);
        due("how many", x.cheapest(1, -2), 1);
        due("the 0-th", x.cheapest(1, 0), 0);
        for (int k = 1; k <= 7; k++) due("the row is not so long", x.cheapest(1, k), NONE);
        x.street(0, 0);
        for (int k = -2; k <= 7; k++) due("by none", x.cheapest(1, k), NONE);
        x.street(0, 1);
        x.ride(0);
        due("from now on, not from the METER on", x.cheapest(0, -1), 1);
        due("from where he is now", x.cheapest(0, 0), 1);
        due("from where he is now", x.cheapest(1, -2), 0);
    }

    private static void cheapestOfSeveral() {
        says("CHEAPEST: by which the METER grows least");
        MoodFare x = of("t1,0;j0,0;j0,1;j0,0;x0,2;x0,1;x1,2;");
        due("0 either way behind, 1 by the other", x.cheapest(2, -1), 0);
        MoodFare y = of("t9,9;j0,0;j0,1;g0,0;j0,3;r0,0;x0,4;x4,3;x0,1;x1,2;x2,3;");
        due("1, 0, 3 is less than 45, 3", y.cheapest(3, -1), 4);
        due("though it is longer", y.cheapest(3, -2), 3);
        due("and by higher numbers", y.cheapest(3, 0), 2);
        due("the last", y.cheapest(3, 2), 4);
        says("CHEAPEST: of several the shortest");
        MoodFare z = of("t1,0;j0,0;j0,0;j0,5;x0,1;x1,2;x0,2;");
        due("5 either way", z.cheapest(2, -1), 5);
        due("the shortest", z.cheapest(2, -2), 1);
        due("though by a higher number", z.cheapest(2, 0), 2);
        says("CHEAPEST: of these the first (by numbers)");
        MoodFare w = of("t1,0;j0,0;j0,0;j0,0;j0,5;x2,3;x0,2;x0,1;x1,3;");
        due("5, two STEPS, either way", w.cheapest(3, -1), 5);
        due("1, 0 is ahead of 2, 3", w.cheapest(3, 0), 1);
        due("1, 0 is ahead of 2, 3", w.cheapest(3, 1), 0);
        w.street(1, 0);
        due("shut: 2, 3", w.cheapest(3, 0), 2);
    }

    private static void cheapestInEight() {
        says("CHEAPEST: 0 to 8 STEPS");
        // five in a ring; to CORNER 5 it is free only on STEPS that are even ahead, and it is 3 STEPS or 8 from CORNER 0
        MoodFare x = of("t1,0;g0,0;g0,0;g0,0;g0,0;g0,0;h7,0;x0,1;x1,2;x2,3;x3,4;x4,0;x2,5;");
        for (int s = 0; s < 5; s++) x.ride(s);
        due("8 STEPS", x.cheapest(5, -1), 0);
        due("8 STEPS", x.cheapest(5, -2), 8);
        due("the first", x.cheapest(5, 0), 0);
        due("the last", x.cheapest(5, 7), 5);
        due("8 STEPS when STREETS may be shut", x.shut(5, 0, 0, 0), 1);
        x.undo();
        due("9 STEPS are too many", x.cheapest(5, -1), 7);
        due("so 4 that cost 7", x.cheapest(5, -2), 4);
        due("9 STEPS are too many when STREETS may be shut", x.shut(5, 6, 0, 0), 0);
        due("4 STEPS that cost 7", x.shut(5, 7, 0, 0), 1);
    }

    private static void dearest() {
        says("DEAREST: in just n STEPS (0 to 8) anywhere: how much; where he is then; the k-th; NONE: by none");
        MoodFare x = of(SHUTTLE);
        for (int n = 0; n <= 8; n++) {
            due("how much in " + n, x.dearest(n, -1), 3 * (n / 2) + 2 * (n % 2));
            due("where in " + n, x.dearest(n, -2), n % 2);
            for (int k = 0; k <= 7; k++) due("the k-th of " + n, x.dearest(n, k), k < n ? k % 2 : NONE);
        }
        MoodFare y = of("t1,0;j0,0;j0,9;j0,9;j0,9;j0,9;j0,9;x0,1;x1,2;x2,3;x3,4;x4,5;");
        due("5 to the end", y.dearest(5, -1), 45);
        due("the end", y.dearest(5, -2), 5);
        due("4, just so many", y.dearest(4, -1), 36);
        for (int n = 6; n <= 8; n++) for (int k = -2; k <= 7; k++) due("by none", y.dearest(n, k), NONE);
        MoodFare z = of("t1,0;j0,0;");
        due("0 STEPS without a STREET", z.dearest(0, -1), 0);
        due("1 STEP without a STREET", z.dearest(1, -1), NONE);
        MoodFare most = of("t9,0;g9,9;j9,9;x0,1;x1,0;");
        due("the most there can be", most.dearest(8, -1), 720);
    }

    private static void dearestOfSeveral() {
        says("DEAREST: by which it grows most, of several the first");
        MoodFare x = of("t1,0;j0,0;j0,5;j0,6;j0,6;j0,0;x0,1;x0,2;x0,3;x3,4;x2,4;");
        due("most", x.dearest(1, -1), 6);
        due("of 1 and 2 the first", x.dearest(1, 0), 1);
        due("where", x.dearest(1, -2), 2);
        due("1, 4 is ahead of 2, 3", x.dearest(2, 0), 1);
        due("1, 4 is ahead of 2, 3", x.dearest(2, 1), 4);
        x.street(4, 0);
        due("2, 3", x.dearest(2, 0), 2);
    }

    private static void moods() {
        says("MOODS in just n STEPS (0 to 8): all MOODS (bits) with which he can be then, at a told CORNER");
        MoodFare x = of("t1,5;j0,0;j4,0;g5,0;j0,0;x0,1;x0,2;x1,3;x2,3;x3,0;");
        due("0 STEPS, where he is", x.moods(0, 0), 1 << 5);
        due("0 STEPS, elsewhere", x.moods(1, 0), 0);
        due("1 STEP, the most MOOD", x.moods(1, 1), 1 << 9);
        due("1 STEP, the least MOOD", x.moods(2, 1), 1);
        due("1 STEP is not 2", x.moods(3, 1), 0);
        due("2 STEPS, both", x.moods(3, 2), 1 << 9 | 1);
        due("2 STEPS are not 1", x.moods(1, 2), 0);
        due("8 STEPS, two rounds and 2: 9, 8 by 1 of 4, 4 by 0 or 8", x.moods(3, 8), 1 << 9 | 1 << 8 | 1 << 4 | 1);
        MoodFare y = of("t1,0;j1,0;j0,0;x0,1;x1,0;");
        due("8 STEPS, four rounds", y.moods(0, 8), 1 << 4);
        due("7 STEPS, three rounds", y.moods(1, 7), 1 << 3);
        due("7 STEPS, elsewhere", y.moods(0, 7), 0);
    }

    private static void gets() {
        says("GETS to a told MOOD: the fewest STEPS .. by which MOOD is so, wherever he is: how many; the k-th STREET of the first such row; NONE");
        MoodFare x = of("t1,5;j0,0;j4,0;g5,0;j4,0;j0,0;x0,4;x4,1;x0,3;x0,1;x0,2;");
        due("is so: 0 STEPS", x.gets(5, -1), 0);
        for (int k = 0; k <= 7; k++) due("is so, by no STREET", x.gets(5, k), NONE);
        due("9, by 2, 3, or 0, 1", x.gets(9, -1), 1);
        due("the fewest STEPS, then the first", x.gets(9, 0), 2);
        due("not so long", x.gets(9, 1), NONE);
        due("0", x.gets(0, 0), 4);
        for (int k = -1; k <= 7; k++) due("never 4", x.gets(4, k), NONE);
    }

    private static void getsInEight() {
        says("GETS: (0 to 8)");
        MoodFare x = of(RING);
        due("6 STEPS", x.gets(2, -1), 6);
        due("9 STEPS are too many", x.gets(3, -1), NONE);
        due("9 STEPS are too many", x.gets(3, 0), NONE);
        x.ride(0);
        due("8 STEPS", x.gets(3, -1), 8);
        due("the first", x.gets(3, 0), 1);
        due("the last", x.gets(3, 7), 2);
    }

    /** STREETS 0, 1 come to haste on STEP 1, STREET 2 comes to it on STEP 0, from now on as many more. */
    private static void oddSteps() {
        says("haste .. only on STEPS that are odd (as they are ahead), in rows that are foretold");
        MoodFare x = of("t1,0;j0,0;j0,0;h5,0;x0,1;x1,2;x0,2;x2,0;");
        lay(x, 0, 0, 1, 3, 2);
        lay(x, 1, 0, 5, 0, 0);
        for (int even = 0; even <= 4; even += 2) {
            due("STEP, even", x.count(3), even);
            due("cheapest", x.cheapest(2, -1), 0);
            due("cheapest, straight", x.cheapest(2, 0), 2);
            due("dearest", x.dearest(2, -1), 5);
            due("dearest, round", x.dearest(2, 1), 1);
            due("moods, straight", x.moods(2, 1), 1);
            due("moods, round", x.moods(2, 2), 1 << 5);
            due("gets", x.gets(5, -1), 2);
            due("fits, RATES", x.fits(1, 0, 0, 0, 2, 1), 2);
            due("fitsOf, MUCHES", x.fitsOf(2, 1, 0, 0, 0, 2, 1), 1 << 5);
            due("share", x.share(0, 0, 2, 0), 2);
            due("shut, straight", x.shut(2, 0, 1, 0), 9);
            due("drawn, X is 16807 by 2: 1, straight", x.drawn(1, 1, 0), 0);
            due("drawn, X is 33614 by 2: 0, round", x.drawn(2, 2, 0), 5);
            x.ride(2);
            x.ride(3);
        }
    }

    private static void eightItems() {
        says("A row tells what the METER grows by, STEP by STEP, on n STREETS (1 to 8 ITEMS, from i on); "
            + "a second row (from j on) tells by which STREETS he goes");
        MoodFare x = of(SHUTTLE);
        lay(x, 0, 7, 7, 2, 1, 2, 1, 2, 1, 2, 1);
        lay(x, 1, 7, 0, 1, 0, 1, 0, 1, 0, 1);
        for (int n = 1; n <= 8; n++) {
            due(n + " ITEMS, WAS", x.fits(0, 2, 1, 1, n, 0), 1023);
            due(n + " ITEMS, RATES", x.fits(0, 2, 1, 1, n, 1), 1022);
            due(n + " ITEMS, MUCHES of haste on even STEPS, or of joy 0", x.fitsOf(0, 0, 2, 1, 1, n, 1), n == 1 ? 1023 : 1);
        }
        due("0 ITEMS", x.fits(0, 2, 1, 1, 0, 0), BAD);
        due("9 ITEMS", x.fits(0, 0, 1, 0, 9, 0), BAD);
        due("0 ITEMS", x.fitsOf(0, 0, 2, 1, 1, 0, 0), BAD);
        due("9 ITEMS", x.fitsOf(0, 0, 0, 1, 0, 9, 0), BAD);
        due("from the last place on", x.fits(0, 2, 1, 1, 8, 0), 1023);
        due("beyond the end of the costs", x.fits(0, 3, 1, 0, 8, 0), PLACE);
        due("beyond the end of the STREETS", x.fits(0, 2, 1, 2, 8, 0), PLACE);
        due("not from there on", x.fits(0, 1, 1, 1, 8, 0), 0);
        x.set(0, 9, 2);
        due("the eighth is not so", x.fits(0, 2, 1, 1, 8, 0), 0);
        due("seven are", x.fits(0, 2, 1, 1, 7, 0), 1023);
        lay(x, 2, 2);
        x.row(3, 0, 1);
        due("ROWS of two LANES", x.fits(2, 0, 3, 0, 1, 0), 1023);
        due("the same ROW: STREET 2 is none", x.fits(2, 0, 2, 0, 1, 0), 0);
        due("the same ROW: STREET 0 does not cost 0", x.fits(3, 0, 3, 0, 1, 0), 0);
        says("an empty ROW");
        x.row(4, 2, 0);
        due("costs", x.fits(4, 0, 1, 1, 1, 0), PLACE);
        due("STREETS", x.fits(0, 2, 4, 0, 1, 0), PLACE);
        due("costs", x.fitsOf(0, 4, 0, 1, 1, 1, 0), PLACE);
        due("STREETS", x.fitsOf(0, 0, 2, 4, 0, 1, 0), PLACE);
        due("shared", x.share(4, 0, 1, 0), PLACE);
        due("none of it copied", x.copy(4, 0, 4, 0, 0), 0);
        due("none of it copied to the end of another", x.copy(4, 0, 1, 9, 0), 0);
        due("one of it", x.copy(4, 0, 1, 0, 1), PLACE);
        due("one to it", x.copy(1, 0, 4, 0, 1), PLACE);
        due("dropped", x.drop(4), 0);
    }

    private static void noOpenStreet() {
        says("(if one of them is no open STREET from where he is, it is not so)");
        MoodFare x = of(SHUTTLE);
        lay(x, 0, 2, 1);
        for (int none : new int[] {-1, 2, 7, 8, 31, 32, 64, Integer.MAX_VALUE, Integer.MIN_VALUE, 1}) {
            lay(x, 1, none, 1);
            for (int what = 0; what <= 1; what++) {
                due("the first is " + none, x.fits(0, 0, 1, 0, 1, what), 0);
                due("the first is " + none, x.fitsOf(0, 0, 0, 1, 0, 1, what), 0);
            }
            due("the first is " + none, x.share(1, 0, 1, 0), NONE);
        }
        for (int none : new int[] {-1, 2, 32, 33, Integer.MAX_VALUE, Integer.MIN_VALUE, 0}) {
            lay(x, 1, 0, none);
            due("the second is " + none, x.fits(0, 0, 1, 0, 2, 0), 0);
            due("the second is " + none, x.fitsOf(0, 0, 0, 1, 0, 2, 0), 0);
            due("the second is " + none, x.share(1, 0, 2, 0), NONE);
            due("one is looked at", x.fits(0, 0, 1, 0, 1, 0), 1023);
        }
    }

    private static void was() {
        says("WAS: MOODS (bits 0 to 9) with which he begins by which it is so");
        MoodFare x = of("t1,5;j0,0;j9,0;j0,3;x0,1;x0,2;");
        lay(x, 1, 0, 1);
        for (int cost = 0; cost <= 9; cost++) {
            lay(x, 0, cost);
            due("cost " + cost, x.fits(0, 0, 1, 0, 1, 0), 1 << 9 - cost);
        }
        for (int cost : new int[] {-1, 10, Integer.MIN_VALUE, Integer.MAX_VALUE}) {
            lay(x, 0, cost);
            due("by none: cost " + cost, x.fits(0, 0, 1, 0, 1, 0), 0);
        }
        lay(x, 0, 3);
        due("by all", x.fits(0, 0, 1, 1, 1, 0), 1023);
        due("as he is", x.count(5), 5);
        MoodFare y = of("t1,5;j0,0;h9,0;x0,1;x1,0;");
        y.ride(0);
        y.ride(1);
        y.ride(0);
        y.ride(1);
        lay(y, 0, 0);
        lay(y, 1, 0);
        due("with which he begins now, on a STEP that is even", y.fits(0, 0, 1, 0, 1, 0), 1023);
    }

    private static void rates() {
        says("RATES: RATE (1 to 9, bits)");
        MoodFare x = of("t5,0;j0,0;j1,0;j0,3;x0,1;x0,2;");
        lay(x, 1, 0, 1);
        for (int cost = 1; cost <= 9; cost++) {
            lay(x, 0, cost);
            due("cost " + cost, x.fits(0, 0, 1, 0, 1, 1), 1 << cost);
        }
        for (int cost : new int[] {0, 10}) {
            lay(x, 0, cost);
            due("by none: cost " + cost, x.fits(0, 0, 1, 0, 1, 1), 0);
        }
        lay(x, 0, 3);
        due("by all", x.fits(0, 0, 1, 1, 1, 1), 1022);
        due("as it is", x.would(0, 1), 5);
    }

    private static void sorts() {
        says("SORTS: KINDS (bits 1 to 5) of a CORNER by which it is so");
        MoodFare x = of("t1,6;j0,0;j2,0;j9,0;x0,1;x1,2;");
        lay(x, 1, 0, 1);
        int[][] costs = {{2, 1}, {3, 0}, {0, 3}, {2, 5}, {4, 7}};
        for (int kind = 1; kind <= 5; kind++) {
            lay(x, 0, costs[kind - 1]);
            due("KIND " + kind, x.fitsOf(1, 0, 0, 1, 0, 2, 0), 1 << kind);
        }
        lay(x, 0, 2, 2);
        due("by none", x.fitsOf(1, 0, 0, 1, 0, 2, 0), 0);
        lay(x, 0, 2, 1);
        due("by all: of one that he does not come to", x.fitsOf(0, 0, 0, 1, 0, 2, 0), 62);
        due("as it is", x.kind(1), 1);
    }

    private static void muches() {
        says("MUCHES: MUCH (0 to 9, bits) of a CORNER");
        MoodFare x = of("t1,0;j0,0;j5,0;x0,1;");
        lay(x, 1, 0);
        for (int cost = 0; cost <= 9; cost++) {
            lay(x, 0, cost);
            due("cost " + cost, x.fitsOf(1, 0, 0, 1, 0, 1, 1), 1 << cost);
        }
        for (int cost : new int[] {-1, 10}) {
            lay(x, 0, cost);
            due("by none: cost " + cost, x.fitsOf(1, 0, 0, 1, 0, 1, 1), 0);
        }
        lay(x, 0, 5);
        due("by all: of one that he does not come to", x.fitsOf(0, 0, 0, 1, 0, 1, 1), 1023);
        due("as it is", x.corner(1, 0), 5);
        due("no ACT", x.count(6), 0);
    }

    private static void share() {
        says("SHARE: the other one from its k-th STREET on (0 to n less 1)");
        MoodFare x = of("t1,0;j0,3;j0,4;x0,1;x1,0;");
        lay(x, 0, 0, 1, 0, 1, 0, 1, 0, 1);
        int[] owes = {12, 10, 9, 7, 6, 4, 3, 1};
        for (int k = 0; k <= 7; k++) due("from " + k + " on", x.share(0, 0, 8, k), owes[k]);
        for (int n = 1; n <= 8; n++) {
            due("the last of " + n, x.share(0, 0, n, n - 1), n % 2 == 1 ? 2 : 1);
            due("none of " + n, x.share(0, 0, n, n), BAD);
            due("ahead of " + n, x.share(0, 0, n, -1), BAD);
        }
        says("SHARE: each STREET's cost is halved while both ride (cut; the first pays the rest)");
        due("3 and 3 are not 6", x.share(0, 0, 4, 0), 6);
        MoodFare y = of("t1,0;j0,1;j0,0;x0,1;x1,0;");
        lay(y, 0, 0, 1, 0, 1, 0, 1, 0, 1);
        due("of 1 none, of 0 none", y.share(0, 0, 8, 0), 0);
        says("SHARE: NONE: the row can not be gone");
        y.set(0, 7, 0);
        due("the last can not", y.share(0, 0, 8, 7), NONE);
        due("seven can", y.share(0, 0, 7, 0), 0);
        y.set(0, 0, 1);
        due("the first can not, and one rides it alone", y.share(0, 0, 7, 6), NONE);
    }

    private static void shut() {
        says("SHUT: each open STREET is shut by c of 10, each by itself: that CHEAPEST to a CORNER grows by q (0 to 999) or less");
        MoodFare x = of("t1,0;j0,0;j0,3;j0,4;x0,1;x1,2;");
        due("q is what it is: above", x.shut(2, 7, 1, 0), 81);
        due("q is what it is: below", x.shut(2, 7, 1, 1), 100);
        due("q is 1 less: above", x.shut(2, 6, 1, 0), 0);
        due("q is 1 less: below", x.shut(2, 6, 1, 1), 1);
        due("q is 999: above", x.shut(2, 999, 9, 0), 1);
        due("q is 999: below", x.shut(2, 999, 9, 1), 100);
        due("q is 0, where he is: above", x.shut(0, 0, 10, 0), 1);
        due("q is 0, where he is: below", x.shut(0, 0, 10, 1), 1);
        due("c is 0: above", x.shut(2, 7, 0, 0), 1);
        due("c is 0: below", x.shut(2, 7, 0, 1), 1);
        due("c is 10: above", x.shut(2, 7, 10, 0), 0);
        due("c is 10: below", x.shut(2, 7, 10, 1), 1);
        x.street(1, 0);
        due("a shut one stays so: above", x.shut(2, 999, 1, 0), 0);
        due("an open one, by itself: above", x.shut(1, 999, 1, 0), 9);
        due("an open one, by itself: below", x.shut(1, 999, 1, 1), 10);
        MoodFare y = of("t1,0;j0,0;j0,0;");
        due("no STREETS, where he is: above", y.shut(0, 0, 5, 0), 1);
        due("no STREETS, where he is: below", y.shut(0, 0, 5, 1), 1);
        due("no STREETS, elsewhere: above", y.shut(1, 999, 5, 0), 0);
        due("no STREETS, elsewhere: below", y.shut(1, 999, 5, 1), 1);
        MoodFare most = of("t9,0;g9,9;j9,9;j0,0;x0,1;x1,0;x1,2;");
        for (int n = 0; n < 3; n++) most.ride(n % 2);
        due("the METER so far does not count", most.shut(2, 0, 0, 0), 1);
    }

    private static void shutByAnyWay() {
        says("SHUT: (by any way)");
        MoodFare x = of("t1,0;j0,0;j0,1;j0,5;x0,1;x1,2;x0,2;");
        due("straight alone: above", x.shut(2, 5, 3, 0), 7);
        due("straight alone: below", x.shut(2, 5, 3, 1), 10);
        due("straight, or round: above", x.shut(2, 6, 3, 0), 847);
        due("straight, or round: below", x.shut(2, 6, 3, 1), 1000);
        MoodFare all = of("t1,0;j0,1;j0,1;j0,1;j0,1;j0,1;j0,1;x0,1;x1,2;x2,3;x3,4;x4,5;x0,2;x0,3;x0,4;");
        due("eight STREETS: above", all.shut(5, 999, 1, 0), 89005149);
        due("eight STREETS: below", all.shut(5, 999, 1, 1), 100000000);
        due("eight STREETS, all open: above", all.shut(5, 999, 0, 0), 1);
        due("eight STREETS, all open: below", all.shut(5, 999, 0, 1), 1);
    }

    private static void rides() {
        says("RIDES of n STEPS (0 to 60)");
        MoodFare x = of("t1,0;j0,1;j0,1;x0,1;x1,0;");
        for (int n = 0; n <= 60; n++) {
            due("METER by " + n, x.drawn(n, 1, 0), n);
            due("where by " + n, x.drawn(n, 1, 1), n % 2);
        }
        due("61", x.drawn(61, 1, 0), BAD);
        due("-1", x.drawn(-1, 1, 0), BAD);
        x.ride(0);
        due("the METER then, with what there is", x.drawn(60, 1, 0), 61);
        says("RIDES: none: he stays");
        MoodFare y = of("t1,0;j0,0;j0,7;x0,1;");
        for (int n = 1; n <= 60; n += 59) {
            due("where", y.drawn(n, 1, 1), 1);
            due("METER", y.drawn(n, 1, 0), 7);
        }
        y.ride(0);
        due("where", y.drawn(60, 1, 1), 1);
        due("METER", y.drawn(60, 1, 0), 7);
        MoodFare z = of("t1,0;j0,3;");
        due("no STREETS", z.drawn(60, 1, 1), 0);
        due("no STREETS", z.drawn(60, 1, 0), 0);
    }

    private static void ridesDrawn() {
        says("RIDES: ahead of each X becomes the rest of (X times 16807) by 2147483647; he goes by that of which as many are ahead "
            + "(by numbers) as the rest of X by how many there are");
        MoodFare x = of(HUB);
        int[] ends = {3, 5, 2, 4, 1};
        for (int seed = 1; seed <= 5; seed++) due("seed " + seed, x.drawn(1, seed, 1), ends[seed - 1]);
        due("the greatest seed: 1774597664 by 5 leaves 4", x.drawn(1, 999999, 1), 5);
        due("its METER", x.drawn(1, 999999, 0), 8);
        x.street(4, 0);
        due("of four: 1774597664 by 4 leaves 0", x.drawn(1, 999999, 1), 1);
        x.street(0, 0);
        due("of three: 1774597664 by 3 leaves 2, STREET 3", x.drawn(1, 999999, 1), 4);
        // X of seed 1: 16807, 282475249, 1622650073, 984943658, 1144108930, 470211272
        MoodFare y = of("t1,0;j0,0;j0,1;j0,2;j0,3;x0,1;x1,0;x0,2;x2,0;x0,3;x3,0;");
        int[] where = {0, 2, 0, 3, 0, 2, 0};
        int[] meters = {0, 2, 2, 5, 5, 7, 7};
        for (int n = 0; n <= 6; n++) {
            due("where by " + n, y.drawn(n, 1, 1), where[n]);
            due("METER by " + n, y.drawn(n, 1, 0), meters[n]);
        }
    }

    private static void kinds() {
        says("KINDS of CORNERS: 0 CORNER; 1 JOY, a CORNER; 2 LOVE, a JOY; 3 HASTE, a JOY; 4 GRIEF, a CORNER; 5 RUIN, a GRIEF");
        MoodFare x = of("t1,1;j0,0;l0,0;h0,0;g0,0;r0,0;");
        int[] are = {0b000011, 0b000111, 0b001011, 0b010001, 0b110001};
        for (int corner = 0; corner < 5; corner++) {
            for (int kind = 0; kind <= 5; kind++) {
                boolean is = (are[corner] >> kind & 1) == 1;
                due("CORNER " + corner + " as " + kind, x.as(corner, kind), is ? corner : KIND);
            }
        }
    }

    /** CORNER 5 of a SORT, behind five others; MUCH and FEE are told. */
    private static MoodFare fifth(char sort, int much, int fee) {
        return of("t1,1;j0,0;j0,0;j0,0;j0,0;j0,0;" + sort + much + "," + fee + ";");
    }

    private static void sizes() {
        says("0 SIZE: 10: FEE. 11 of JOYS: what 10 gives, and MARK. 12 of LOVES: 0 less what 11 gives. "
            + "13 of GRIEFS: what 10 gives, less 100. 14 of RUINS: what 13 gives, twice");
        due("JOY, the least", of("t1,1;j0,0;").ask(0, 0), 0);
        due("JOY, the most", fifth('j', 9, 9).ask(5, 0), 23);
        due("LOVE, the most", of("t1,1;l0,0;").ask(0, 0), 0);
        due("LOVE, the least", fifth('l', 9, 9).ask(5, 0), -37);
        due("HASTE, the least", of("t1,1;h0,0;").ask(0, 0), -1000);
        due("HASTE, the most", fifth('h', 9, 9).ask(5, 0), -977);
        due("GRIEF, the least", of("t1,1;g0,0;").ask(0, 0), -100);
        due("GRIEF, the most", fifth('g', 9, 9).ask(5, 0), -91);
        due("RUIN, the least", of("t1,1;r0,0;").ask(0, 0), -200);
        due("RUIN, the most", fifth('r', 9, 9).ask(5, 0), -182);
    }

    private static void marks() {
        says("1 MARK: 20: the number. 21 of JOYS: what 20 gives, and MUCH. 22 of HASTES: what 21 gives, less 1000. "
            + "23 of GRIEFS: what 20 gives, less SIZE. 24 of LOVES: what 21 gives, twice");
        due("JOY, the least", of("t1,1;j0,0;").ask(0, 1), 0);
        due("JOY, the most", fifth('j', 9, 9).ask(5, 1), 14);
        due("LOVE, the least", of("t1,1;l0,0;").ask(0, 1), 0);
        due("LOVE, the most", fifth('l', 9, 9).ask(5, 1), 28);
        due("HASTE, the least", of("t1,1;h0,0;").ask(0, 1), -1000);
        due("HASTE, the most", fifth('h', 9, 9).ask(5, 1), -986);
        due("GRIEF", of("t1,1;g0,0;").ask(0, 1), 100);
        due("GRIEF, FEE 9", fifth('g', 9, 9).ask(5, 1), 96);
        due("RUIN", of("t1,1;r0,0;").ask(0, 1), 200);
        due("RUIN, FEE 9", fifth('r', 9, 9).ask(5, 1), 187);
    }

    private static void traced(MoodFare x, int corner, int what, int... bodies) {
        x.ask(corner, what);
        for (int i = 0; i <= 16; i++) {
            due("ask " + corner + " " + what + ", trace " + i, x.trace(i), i < bodies.length ? bodies[i] : NONE);
        }
    }

    private static void traces() {
        says("BODIES, each of which leaves its number in THE TRACE as it begins (the first 16)");
        MoodFare x = of("t1,1;j0,0;l0,0;h0,0;g0,0;r0,0;");
        for (int i : new int[] {Integer.MIN_VALUE, -1, 0, 15, 16, Integer.MAX_VALUE}) due("ahead of an ask", x.trace(i), NONE);
        traced(x, 0, 0, 11, 10, 21, 20);
        traced(x, 1, 0, 12, 11, 10, 24, 21, 20);
        traced(x, 2, 0, 11, 10, 22, 21, 20);
        traced(x, 3, 0, 13, 10);
        traced(x, 4, 0, 14, 13, 10);
        traced(x, 0, 1, 21, 20);
        traced(x, 1, 1, 24, 21, 20);
        traced(x, 2, 1, 22, 21, 20);
        traced(x, 3, 1, 23, 20, 13, 10);
        traced(x, 4, 1, 23, 20, 14, 13, 10);
        for (int i : new int[] {Integer.MIN_VALUE, -1, 5, 15, 16, Integer.MAX_VALUE}) due("none such", x.trace(i), NONE);
    }
}

/** Each sentence of "## Terms", parts 1 and 2, that names a boundary: the last value as told, the first that is not. */
public final class TermsTest extends Checks {
    private static final String SIX = "t1,1;j0,0;l0,0;h0,0;g0,0;r0,0;j9,9;";
    private static final String EIGHT = SIX + "x0,1;x1,0;x0,2;x2,0;x0,3;x3,0;x0,4;x4,0;";

    public static void main(String[] args) {
        divided();
        fractions();
        findings();
        rows();
        lanes();
        itemsAtFirst();
        tape();
        tokens();
        grammar();
        law();
        corners();
        streets();
        townRead();
        faults();
        joyAndLove();
        haste();
        griefAndRuin();
        meter();
        meterAtMost();
        step();
        actsKept();
        actsForgotten();
        actsOfEachKind();
        openAtFirst();
        shutOnes();
        end();
    }

    private static void divided() {
        says("All that is divided is cut towards 0");
        due("ruin of 7", of("t1,7;j0,0;r0,0;x0,1;").ride(0), 3);
        due("ruin of 1", of("t1,1;j0,0;r0,0;x0,1;").ride(0), 0);
        for (int fee = 0; fee <= 9; fee++) {
            MoodFare x = of("t1,0;j0,0;j0," + fee + ";x0,1;");
            x.row(0, 0, 1);
            due("half of " + fee, x.share(0, 0, 1, 0), new int[] {0, 0, 1, 1, 2, 2, 3, 3, 4, 4}[fee]);
        }
    }

    private static void fractions() {
        says("fractions, told as two numbers in lowest terms (0 is 0 by 1)");
        MoodFare x = of("t1,0;j0,0;j0,3;x0,1;");
        int[] above = {1, 9, 4, 7, 3, 1, 2, 3, 1, 1, 0}, below = {1, 10, 5, 10, 5, 2, 5, 10, 5, 10, 1};
        for (int c = 0; c <= 10; c++) {
            due("above, shut by " + c, x.shut(1, 3, c, 0), above[c]);
            due("below, shut by " + c, x.shut(1, 3, c, 1), below[c]);
            due("0 by 1, above", x.shut(1, 2, c, 0), 0);
            due("0 by 1, below", x.shut(1, 2, c, 1), 1);
        }
    }

    private static void findings() {
        says("-1000010 less 1 NULL (a ROW that is missing), 2 PLACE (no such place of a ROW), 3 KIND (a CORNER that is not that), "
            + "4 SIZE (fewer than none), 5 STORE (ROWS of two LANES)");
        MoodFare x = of(PLAIN);
        due("NULL", x.drop(0), -1000011);
        due("its number", x.status(), 1);
        x.row(0, 0, 1);
        due("PLACE", x.set(0, 1, 0), -1000012);
        due("its number", x.status(), 2);
        due("KIND", x.as(0, 5), -1000013);
        due("its number", x.status(), 3);
        due("SIZE", x.row(0, 0, -1), -1000014);
        due("its number", x.status(), 4);
        x.row(1, 1, 1);
        due("STORE", x.copy(0, 0, 1, 0, 1), -1000015);
        due("its number", x.status(), 5);
    }

    // ---- 1 ROWS, TEXTS

    private static void rows() {
        says("ROWS 0 .. 7 are missing (at first)");
        for (int row = 0; row <= 7; row++) {
            MoodFare x = new MoodFare();
            due("drop of " + row, x.drop(row), NULL);
            due("set of " + row, x.set(row, 0, 0), NULL);
            due("ROW " + row, x.row(row, 0, 1), 1);
            due("one ROW", x.count(0), 1);
            due("drop of " + row, x.drop(row), 1);
        }
        due("ROW 8", new MoodFare().row(8, 0, 1), BAD);
        due("ROW -1", new MoodFare().row(-1, 0, 1), BAD);
        says("0 to 40 ITEMS");
        for (int lane = 0; lane <= 2; lane++) {
            MoodFare x = new MoodFare();
            due("none", x.row(0, lane, 0), 0);
            due("a ROW of none is there", x.count(0), 1);
            due("no place in it", x.set(0, 0, 1), PLACE);
            due("no place ahead of it", x.set(0, -1, 1), PLACE);
            due("one", x.row(0, lane, 1), 1);
            due("its only place", x.set(0, 0, 1), 1);
            due("beyond it", x.set(0, 1, 1), PLACE);
            due("40", x.row(0, lane, 40), 40);
            due("the last of 40", x.set(0, 39, 1), 1);
            due("beyond 40", x.set(0, 40, 1), PLACE);
            due("41", x.row(0, lane, 41), BAD);
            due("40 are there yet", x.drop(0), 40);
        }
    }

    private static void lanes() {
        says("a LANE (0 bytes, 1 shorts, 2 ints)");
        MoodFare x = new MoodFare();
        for (int lane = 0; lane <= 2; lane++) due("LANE " + lane, x.row(lane, lane, 1), 1);
        due("LANE 3", x.row(3, 3, 1), BAD);
        due("LANE -1", x.row(3, -1, 1), BAD);
        int[][] bytes = {{127, 127}, {128, -128}, {255, -1}, {256, 0}, {-128, -128}, {-129, 127},
            {Integer.MAX_VALUE, -1}, {Integer.MIN_VALUE, 0}};
        for (int[] v : bytes) due("byte of " + v[0], x.set(0, 0, v[0]), v[1]);
        int[][] shorts = {{32767, 32767}, {32768, -32768}, {65535, -1}, {65536, 0}, {-32768, -32768}, {-32769, 32767},
            {Integer.MAX_VALUE, -1}, {Integer.MIN_VALUE, 0}};
        for (int[] v : shorts) due("short of " + v[0], x.set(1, 0, v[0]), v[1]);
        for (int v : new int[] {65536, -32769, Integer.MAX_VALUE, Integer.MIN_VALUE}) due("int of " + v, x.set(2, 0, v), v);
    }

    private static void itemsAtFirst() {
        says("ITEMS, 0 at first");
        MoodFare x = of(HUB);
        x.row(0, 2, 40);
        for (int i = 0; i < 40; i++) due("at first", item(x, 0, i), 0);
        for (int i = 0; i < 40; i++) x.set(0, i, 1 + i % 4);
        due("set", item(x, 0, 39), 4);
        x.row(0, 2, 40);
        for (int i = 0; i < 40; i++) due("laid anew", item(x, 0, i), 0);
        x.set(0, 1, 3);
        x.row(0, 2, 1);
        x.row(0, 2, 2);
        due("beyond the end, for a while", item(x, 0, 1), 0);
        x.set(0, 1, 3);
        x.drop(0);
        x.row(0, 2, 2);
        due("missing, for a while", item(x, 0, 1), 0);
    }

    private static void faulty(String text, int place, int number) {
        MoodFare x = new MoodFare();
        due("read of " + text, read(x, text), -1000100 - place);
        due("fault of " + text, x.fault(), number);
        due("no TOWN by " + text, x.count(1), 0);
        due("empty behind " + text, x.count(7), 0);
    }

    private static MoodFare fine(String text, int streets) {
        MoodFare x = new MoodFare();
        due("read of " + text, read(x, text), streets);
        due("no fault of " + text, x.fault(), 0);
        return x;
    }

    private static void tape() {
        says("THE TAPE has at most 120 bytes, that come one by one");
        MoodFare x = new MoodFare();
        for (int n = 1; n <= 120; n++) due("byte " + n, x.feed(n % 2 == 0 ? 0 : 255), n);
        due("the 121st", x.feed(0), FULL);
        due("120 are there", x.count(7), 120);
        due("read", x.town(), -1000100);
        due("room again", x.feed('t'), 1);
        says("The longest text that can be a TOWN has 105 bytes: there is room for it, and for 15 behind it");
        String longest = "t09,09;j09,09;l08,08;h07,07;g06,06;r05,05;j04,04;"
            + "x00,01;x01,00;x00,02;x02,00;x00,03;x03,00;x00,04;x05,00;";
        MoodFare y = fine(longest, 8);
        due("MOOD", y.count(5), 9);
        due("MUCH", y.corner(5, 0), 4);
        due("the last FROM", y.way(7, 0), 5);
        faulty(longest.substring(0, 104), 104, 1);
        faulty(longest + "x", 105, 3);
        faulty(longest + "               ", 105, 1);
        says("THE TAPE, empty");
        faulty("", 0, 1);
    }

    private static void tokens() {
        says("letters a to z (each by itself)");
        for (char letter = 'a'; letter <= 'z'; letter++) {
            int kind = 1 + "jlhgr".indexOf(letter);
            if (kind > 0) due("SORT " + letter, fine("t1,1;" + letter + "0,0;", 0).kind(0), kind);
            else faulty("t1,1;" + letter + "0,0;", 5, 1);
            if (letter != 't') faulty(letter + "1,1;j0,0;", 0, 1);
            if (letter != 'x') faulty(EIGHT.substring(0, 40) + letter + "0,2;", 40, 1);
        }
        faulty("tt1,1;j0,0;", 1, 1);
        faulty("t1,1;jj0,0;", 6, 1);
        says("NUMBERS (figures, 2 at most)");
        due("one figure", fine("t1,7;j0,0;", 0).count(5), 7);
        due("two figures", fine("t1,07;j0,0;", 0).count(5), 7);
        faulty("t1,007;j0,0;", 3, 1);
        faulty("t1,0000007;j0,0;", 3, 1);
        faulty("t1,/;j0,0;", 3, 1);
        faulty("t1,:;j0,0;", 3, 1);
        faulty("t1,0/;j0,0;", 4, 1);
        faulty("t1,0:;j0,0;", 4, 1);
        says("SIGNS , and ; nothing else, no blanks");
        String text = "t1,1;j0,0;j0,0;x0,1;";
        for (char other : new char[] {0, '\t', '\n', ' ', '+', '-', '.', '/', ':', '<', '@', 'A', 'J', 'T', 'X', '`', '{', 127, 255}) {
            for (int i = 0; i <= text.length(); i++) faulty(text.substring(0, i) + other + text.substring(i), i, 1);
        }
    }

    private static void grammar() {
        says("town: law corner { corner } { street }");
        faulty("j0,0;", 0, 1);
        faulty("x0,1;", 0, 1);
        faulty("t1,1;", 5, 1);
        faulty("t1,1;t1,1;j0,0;", 5, 1);
        faulty("t1,1;x0,1;", 5, 1);
        due("one corner, no street", fine("t1,1;j0,0;", 0).count(1), 1);
        due("a corner more", fine("t1,1;j0,0;j0,0;", 0).count(1), 2);
        fine("t1,1;j0,0;j0,0;x0,1;", 1);
        fine("t1,1;j0,0;j0,0;x0,1;x1,0;", 2);
        faulty("t1,1;j0,0;t1,1;", 10, 1);
        faulty("t1,1;j0,0;j0,0;x0,1;j0,0;", 20, 1);
        faulty("t1,1;j0,0;j0,0;x0,1;t1,1;", 20, 1);
        says("law: t RATE , MOOD ;  corner: SORT MUCH , FEE ;  street: x FROM , TO ; (one of the other SIGNS, none, a NUMBER too many)");
        for (String text : new String[] {"t1;1;j0,0;", "t1j0,0;", "t1x1;"}) faulty(text, 2, 1);
        for (String text : new String[] {"t1,1,j0,0;", "t1,1j0,0;", "t1,1"}) faulty(text, 4, 1);
        for (String text : new String[] {"t,1;", "t;1;", "tj"}) faulty(text, 1, 1);
        for (String text : new String[] {"t1,;", "t1,,", "t1,j"}) faulty(text, 3, 1);
        for (String text : new String[] {"t1,1;j0;0;", "t1,1;j0j", "t1,1;j0"}) faulty(text, 7, 1);
        for (String text : new String[] {"t1,1;j0,0,", "t1,1;j0,0x", "t1,1;j0,0"}) faulty(text, 9, 1);
        for (String text : new String[] {"t1,1;j,0;", "t1,1;j;0;", "t1,1;jl"}) faulty(text, 6, 1);
        for (String text : new String[] {"t1,1;j0,;", "t1,1;j0,,", "t1,1;j0,j"}) faulty(text, 8, 1);
        for (String text : new String[] {"x0;1;", "x0x1;", "x0"}) faulty(SIX + text, 37, 1);
        for (String text : new String[] {"x0,1,", "x0,1x", "x0,1"}) faulty(SIX + text, 39, 1);
        for (String text : new String[] {"x,1;", "x;1;", "xx"}) faulty(SIX + text, 36, 1);
        for (String text : new String[] {"x0,;", "x0,,", "x0,x"}) faulty(SIX + text, 38, 1);
    }

    private static void law() {
        says("law: t RATE , MOOD ; (1 to 9; 0 to 9)");
        faulty("t0,1;j0,0;", 1, 2);
        faulty("t00,1;j0,0;", 1, 2);
        for (int rate = 1; rate <= 9; rate++) {
            due("RATE " + rate, fine("t" + rate + ",0;j0,0;j1,0;x0,1;", 1).would(0, 1), rate);
        }
        faulty("t10,1;j0,0;", 1, 2);
        faulty("t99,1;j0,0;", 1, 2);
        for (int mood = 0; mood <= 9; mood++) due("MOOD " + mood, fine("t1," + mood + ";j0,0;", 0).count(5), mood);
        faulty("t1,10;j0,0;", 3, 2);
        faulty("t1,99;j0,0;", 3, 2);
    }

    private static void corners() {
        says("corner: SORT MUCH , FEE ; (j joy, l love, h haste, g grief, r ruin; 0 to 9; 0 to 9)");
        for (int v = 0; v <= 9; v++) {
            due("MUCH " + v, fine("t1,1;j" + v + ",0;", 0).corner(0, 0), v);
            due("FEE " + v, fine("t1,1;j0," + v + ";", 0).corner(0, 1), v);
        }
        faulty("t1,1;j10,0;", 6, 2);
        faulty("t1,1;j99,0;", 6, 2);
        faulty("t1,1;j0,10;", 8, 2);
        faulty("t1,1;j0,99;", 8, 2);
        faulty("t1,1;j100,0;", 6, 1);
        says("CORNERS 0 .. 5, 6 at most");
        MoodFare x = fine(SIX, 0);
        due("6", x.count(1), 6);
        due("CORNER 5", x.corner(5, 0), 9);
        due("CORNER 6", x.corner(6, 0), BAD);
        for (char sort : "jlhgr".toCharArray()) faulty(SIX + sort, 35, 3);
        faulty(SIX + "j0,0;", 35, 3);
        faulty(SIX + "j99,0;", 35, 3);
    }

    private static void streets() {
        says("street: two CORNERS told");
        for (int corners = 1; corners <= 6; corners++) {
            String text = SIX.substring(0, 5 + 5 * corners);
            int last = corners - 1;
            if (corners > 1) {
                due("FROM the last", fine(text + "x" + last + ",0;", 1).way(0, 0), last);
                due("TO the last", fine(text + "x0," + last + ";", 1).way(0, 1), last);
            }
            faulty(text + "x" + corners + ",0;", text.length() + 1, 2);
            faulty(text + "x0," + corners + ";", text.length() + 3, 2);
            faulty(text + "x99,0;", text.length() + 1, 2);
            faulty(text + "x0,99;", text.length() + 3, 2);
        }
        says("street: two CORNERS that are not the same");
        for (int c = 0; c < 6; c++) faulty(SIX + "x" + c + "," + c + ";", 38, 2);
        faulty(SIX + "x0,00;", 38, 2);
        faulty("t1,1;j0,0;x0,0;", 13, 2);
        says("street: nor both of a street told ahead of it, in this direction");
        faulty(SIX + "x0,1;x0,1;", 43, 2);
        faulty(SIX + "x0,1;x00,01;", 44, 2);
        faulty(SIX + "x0,1;x1,0;x1,0;", 48, 2);
        faulty(EIGHT.substring(0, 70) + "x0,1;", 73, 2);
        fine(SIX + "x0,1;x1,0;x0,2;x2,1;", 4);
        says("STREETS 0 .. 7, 8 at most");
        MoodFare x = fine(EIGHT, 8);
        due("STREET 7", x.way(7, 0), 4);
        due("STREET 8", x.way(8, 0), BAD);
        faulty(EIGHT + "x", 75, 3);
        faulty(EIGHT + "x0,5;", 75, 3);
        faulty(EIGHT + "x0,0;", 75, 3);
        says("one way each");
        MoodFare y = of("t1,1;j0,0;j0,0;x0,1;");
        y.ride(0);
        due("back by it", y.ride(0), STATE);
        due("no way back", y.cheapest(0, -1), NONE);
        due("OPEN ways", y.reach(), 2);
    }

    private static void townRead() {
        says("A TOWN that is read stands in place of the one before (none at first): "
            + "the rider is AT CORNER 0, his MOOD as told, the METER is 0, STEP 0; no ACT can be undone");
        MoodFare x = new MoodFare();
        same("none at first", counts(x, 1, 2, 3, 4, 5, 6, 8, 9), "0 0 0 0 0 0 0 0");
        read(x, "t9,1;j1,1;j2,9;j3,3;x0,1;x1,2;x2,0;");
        x.ride(0);
        x.lesson(0, 9);
        x.street(2, 0);
        same("ahead of another", counts(x, 1, 2, 3, 4, 5, 6, 8, 9), "3 3 1 1 3 3 27 3");
        due("another", read(x, "t2,7;g4,5;r6,7;x1,0;x0,1;"), 2);
        same("in its place", counts(x, 1, 2, 3, 4, 5, 6, 8, 9), "2 2 0 0 7 0 0 3");
        due("undo", x.undo(), STATE);
        due("MUCH", x.corner(0, 0), 4);
        due("FEE", x.corner(1, 1), 7);
        due("KIND", x.kind(0), 4);
        due("FROM", x.way(0, 0), 1);
        due("RATE: 7 to 0, FEE 7", x.would(1, 1), 21);
        due("CORNER 2 is none", x.corner(2, 0), BAD);
        due("STREET 2 is none", x.way(2, 0), BAD);
        MoodFare y = of("t9,1;j1,1;j2,9;x0,1;");
        lay(y, 0, 0);
        y.drawn(60, 1, 0);
        y.share(0, 0, 1, 0);
        read(y, "t2,7;g4,5;");
        same("behind rides that were only foretold", counts(y, 1, 2, 3, 4, 5, 6, 8, 9), "1 0 0 0 7 0 0 0");
    }

    private static void faults() {
        says("FAULTS, the first TOKEN that has one (its first byte)");
        faulty("t10,10;", 1, 2);
        faulty("t1,10;k", 3, 2);
        faulty("t1,1;j10;", 6, 2);
        faulty("t1,1;j0,0;x1,0;", 11, 2);
        faulty(SIX + "x9,9;", 36, 2);
        says("of one TOKEN the least");
        faulty("t100,1;", 1, 1);
        faulty(SIX + "x0,000;", 38, 1);
        faulty(SIX + "k", 35, 1);
        faulty(EIGHT + "j", 75, 1);
        faulty(EIGHT + "000", 75, 1);
        says("the end: how many bytes there are");
        for (int n = 0; n < PLAIN.length(); n++) {
            String start = PLAIN.substring(0, n);
            if (n >= 10 && start.endsWith(";")) fine(start, n < 30 ? 0 : (n - 30) / 5);
            else faulty(start, n, 1);
        }
    }

    // ---- 2 MOOD, METER, ACTS

    /** A rider of MOOD comes to CORNER 2 on a STEP of 0 to 2 (as it is ahead); RATE is 9, FEE 0. */
    private static void passes(String kind, int mood, int much, int step, int then) {
        String what = kind + much + " of " + mood + " on STEP " + step;
        MoodFare x = of("t9," + mood + ";j0,0;j0,0;" + kind + much + ",0;x0,1;x1,2;x0,2;x1,0;");
        if (step > 0) x.ride(0);
        if (step > 1) x.ride(3);
        int street = step == 1 ? 1 : 2;
        due(what + ", did he PASS it", x.corner(2, 4), then);
        due(what + ", would", x.would(street, 0), then);
        due(what + ", rides", x.ride(street), then);
        due(what + ", MOOD", x.count(5), then);
        due(what + ", METER", x.count(8), 9 * Math.abs(then - mood));
    }

    private static void joyAndLove() {
        says("joy adds MUCH (9 at most)");
        int[][] joys = {{0, 0, 0}, {0, 9, 9}, {8, 0, 8}, {8, 1, 9}, {8, 2, 9}, {9, 0, 9}, {9, 9, 9}, {4, 5, 9}, {4, 6, 9}};
        for (int[] v : joys) for (int step = 0; step <= 2; step++) passes("j", v[0], v[1], step, v[2]);
        says("love as joy, but as much again, if MOOD was above 4");
        int[][] loves = {{0, 0, 0}, {0, 4, 4}, {0, 9, 9}, {3, 2, 5}, {4, 2, 6}, {4, 5, 9}, {4, 6, 9}, {5, 0, 5}, {5, 1, 7},
            {5, 2, 9}, {5, 3, 9}, {7, 1, 9}, {8, 1, 9}, {9, 9, 9}};
        for (int[] v : loves) for (int step = 0; step <= 2; step++) passes("l", v[0], v[1], step, v[2]);
    }

    private static void haste() {
        says("haste as joy, but only on STEPS that are odd (as they are ahead)");
        int[][] hastes = {{0, 0, 0}, {0, 9, 9}, {8, 1, 9}, {8, 2, 9}, {9, 9, 9}, {5, 2, 7}};
        for (int[] v : hastes) {
            passes("h", v[0], v[1], 0, v[0]);
            passes("h", v[0], v[1], 1, v[2]);
            passes("h", v[0], v[1], 2, v[0]);
        }
    }

    private static void griefAndRuin() {
        says("grief takes MUCH away (0 at least)");
        int[][] griefs = {{0, 0, 0}, {0, 9, 0}, {3, 2, 1}, {3, 3, 0}, {3, 4, 0}, {9, 0, 9}, {9, 8, 1}, {9, 9, 0}};
        for (int[] v : griefs) for (int step = 0; step <= 2; step++) passes("g", v[0], v[1], step, v[2]);
        says("ruin as grief, and then half of it is left (cut)");
        int[][] ruins = {{0, 0, 0}, {1, 0, 0}, {2, 0, 1}, {3, 0, 1}, {9, 0, 4}, {9, 1, 4}, {9, 6, 1}, {9, 7, 1}, {9, 8, 0},
            {9, 9, 0}, {3, 4, 0}, {0, 9, 0}};
        for (int[] v : ruins) for (int step = 0; step <= 2; step++) passes("r", v[0], v[1], step, v[2]);
    }

    private static void meter() {
        says("The METER grows by how much MOOD is another by that, times RATE, and by FEE");
        MoodFare x = of("t9,0;g9,9;j9,9;x0,1;x1,0;");
        x.ride(0);
        due("the most: 0 to 9", x.count(8), 90);
        x.ride(1);
        due("the most: 9 to 0", x.count(8), 180);
        MoodFare y = of("t1,9;j0,0;j9,0;j0,9;x0,1;x1,2;");
        y.ride(0);
        due("the least: none at all", y.count(8), 0);
        y.ride(1);
        due("FEE alone", y.count(8), 9);
        MoodFare z = of("t1,8;j0,0;j9,0;x0,1;");
        z.ride(0);
        due("by how much it is another, not by MUCH", z.count(8), 1);
    }

    private static void meterAtMost() {
        says("The METER (9999 at most)");
        MoodFare x = of("t9,0;g9,9;j9,9;j0,8;j0,1;j0,2;j0,0;x0,1;x1,0;x1,2;x2,3;x2,4;x3,5;x4,5;x5,2;");
        for (int n = 0; n < 111; n++) x.ride(n % 2);
        due("111 times 90", x.count(8), 9990);
        x.ride(2);
        due("8 more", x.count(8), 9998);
        x.ride(3);
        due("1 more", x.count(8), 9999);
        x.ride(5);
        due("0 more", x.count(8), 9999);
        x.undo();
        x.undo();
        due("undone", x.count(8), 9998);
        due("a cost of 2, all the same", x.would(4, 1), 2);
        x.ride(4);
        due("2 more", x.count(8), 9999);
        x.ride(6);
        x.ride(7);
        due("8 more", x.count(8), 9999);
        x.image(0);
        due("undone, to where it was the most already", x.undo(), 23);
        due("METER", x.count(8), 9999);
        due("undone", x.undo(), 22);
        due("undone", x.undo(), 21);
        due("METER", x.count(8), 9998);
        due("foretold, by draws", x.drawn(1, 1, 0), 9999);
        due("foretold, by more draws", x.drawn(60, 1, 0), 9999);
        due("as it is", x.drawn(0, 1, 0), 9998);
        x.restore(0);
        due("by an IMAGE", x.reset(), 9999);
        x.undo();
        due("set to 0, undone", x.count(8), 9999);
    }

    private static void step() {
        says("A STEP: the rider goes by a STREET from where he is AT to the CORNER at its other end, and PASSES that. STEP is 1 more");
        MoodFare x = of("t1,5;j9,9;g1,2;x0,1;x1,0;");
        due("passes the other end, not where he is", x.ride(0), 4);
        same("STEP, AT, MOOD, METER", counts(x, 3, 4, 5, 8), "1 1 4 3");
        x.ride(1);
        same("STEP, AT, MOOD, METER", counts(x, 3, 4, 5, 8), "2 0 9 17");
    }

    private static void actsKept() {
        says("ACTS (24 at most are kept ..; each can be undone, the latest first)");
        MoodFare x = of("t1,0;j0,0;");
        for (int n = 1; n <= 24; n++) {
            x.lesson(0, n % 10);
            due("ACT " + n, x.count(6), n);
        }
        for (int n = 23; n >= 0; n--) {
            due("undo", x.undo(), n);
            due("MUCH", x.corner(0, 0), n % 10);
        }
        due("none", x.undo(), STATE);
    }

    private static void actsForgotten() {
        says("ACTS: of more the oldest is forgotten");
        for (int more = 1; more <= 30; more++) {
            MoodFare x = of("t1,0;j0,0;");
            for (int n = 1; n <= 24 + more; n++) x.lesson(0, n % 10);
            due("24 of " + (24 + more), x.count(6), 24);
            for (int n = 23; n >= 0; n--) due("undo", x.undo(), n);
            due("the oldest stands", x.corner(0, 0), more % 10);
            due("none", x.undo(), STATE);
        }
        MoodFare y = of("t1,0;j0,0;");
        for (int n = 1; n <= 24; n++) y.lesson(0, n % 10);
        y.undo();
        y.lesson(0, 9);
        due("room again by undo", y.count(6), 24);
        for (int n = 0; n < 24; n++) y.undo();
        due("none was forgotten", y.corner(0, 0), 0);
    }

    /** One ACT, then as many lessons: the ACT is kept if there are 23 of them, forgotten if there are 24. */
    private static void oldest(String name, int act, int lessons, String want) {
        MoodFare x = of("t1,1;j1,0;j2,3;x0,1;x1,0;");
        x.ride(0);
        x.street(1, 0);
        read(x, "t1,1;j1,0;j2,3;x0,1;x1,0;");
        x.ride(0);
        x.street(0, 0);
        x.image(0);
        x.restore(0);
        if (act == 0) x.lesson(0, 9);
        if (act == 1) x.reset();
        if (act == 2) x.street(0, 1);
        if (act == 3) x.street(1, 0);
        if (act == 4) x.ride(1);
        for (int n = 0; n < lessons; n++) x.lesson(1, n % 10);
        due(name, x.count(6), 24);
        for (int n = 23; n >= 0; n--) due(name, x.undo(), n);
        same(name + ", MUCH, STEP, AT, MOOD, METER, open", x.corner(0, 0) + " " + counts(x, 3, 4, 5, 8, 9), want);
        due(name, x.undo(), STATE);
    }

    private static void actsOfEachKind() {
        says("ACTS: a STEP; a lesson (MUCH of a CORNER is another); the METER is set to 0; a STREET is shut, or open again");
        String[] names = {"a lesson", "METER set to 0", "open again", "shut", "a STEP"};
        String[] thens = {"9 1 1 3 5 2", "1 1 1 3 0 2", "1 1 1 3 5 3", "1 1 1 3 5 0", "1 2 0 4 6 2"};
        for (int act = 0; act < 5; act++) {
            oldest(names[act] + ", undone", act, 23, "1 1 1 3 5 2");
            oldest(names[act] + ", forgotten", act, 24, thens[act]);
        }
    }

    private static void openAtFirst() {
        says("all are open at first");
        for (int streets = 0; streets <= 8; streets++) {
            MoodFare x = of(EIGHT.substring(0, 35 + 5 * streets));
            due(streets + " STREETS", x.count(2), streets);
            due(streets + " open", x.count(9), (1 << streets) - 1);
            for (int s = 0; s < streets; s++) due("open", x.way(s, 2), 1);
        }
    }

    private static void shutOnes() {
        says("nobody goes by a shut one");
        MoodFare x = of("t1,0;j0,0;j2,1;x0,1;x1,0;");
        lay(x, 0, 0);
        lay(x, 1, 3);
        x.street(0, 0);
        due("ride", x.ride(0), STATE);
        due("would", x.would(0, 0), NONE);
        due("would", x.would(0, 1), NONE);
        due("reach", x.reach(), 1);
        due("cheapest", x.cheapest(1, -1), NONE);
        due("dearest", x.dearest(1, -1), NONE);
        due("moods", x.moods(1, 1), 0);
        due("gets", x.gets(2, -1), NONE);
        due("fits, WAS", x.fits(1, 0, 0, 0, 1, 0), 0);
        due("fits, RATES", x.fits(1, 0, 0, 0, 1, 1), 0);
        due("fitsOf, SORTS", x.fitsOf(1, 1, 0, 0, 0, 1, 0), 0);
        due("fitsOf, MUCHES", x.fitsOf(1, 1, 0, 0, 0, 1, 1), 0);
        due("share", x.share(0, 0, 1, 0), NONE);
        due("shut", x.shut(1, 999, 0, 0), 0);
        due("drawn", x.drawn(1, 1, 1), 0);
        x.street(0, 1);
        due("open again: reach", x.reach(), 3);
        due("cheapest", x.cheapest(1, -1), 3);
        due("dearest", x.dearest(1, -1), 3);
        due("moods", x.moods(1, 1), 4);
        due("gets", x.gets(2, -1), 1);
        due("fits, WAS", x.fits(1, 0, 0, 0, 1, 0), 255);
        due("fits, RATES", x.fits(1, 0, 0, 0, 1, 1), 2);
        due("fitsOf, SORTS", x.fitsOf(1, 1, 0, 0, 0, 1, 0), 6);
        due("fitsOf, MUCHES", x.fitsOf(1, 1, 0, 0, 0, 1, 1), 4);
        due("share", x.share(0, 0, 1, 0), 1);
        due("shut", x.shut(1, 999, 0, 0), 1);
        due("drawn", x.drawn(1, 1, 1), 1);
        due("ride", x.ride(0), 2);
    }
}

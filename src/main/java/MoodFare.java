/**
 * A meter whose fare follows what a rider went through. The numbered promises
 * stand in ../shared/DOC.md; the words in capitals there are used here too.
 */
public final class MoodFare {
    public static final int NONE = -1000000, BAD = -1000001, STATE = -1000002, FULL = -1000003;

    private static final int FINDING_BASE = -1000010;
    private static final int FAULT_BASE = -1000100;

    private static final int NULL = 1;
    private static final int PLACE = 2;
    private static final int KIND = 3;
    private static final int SIZE = 4;
    private static final int STORE = 5;

    private static final int JOY = 1;
    private static final int LOVE = 2;
    private static final int HASTE = 3;
    private static final int GRIEF = 4;
    private static final int RUIN = 5;

    private static final int ROW_ROOM = 8;
    private static final int ITEM_ROOM = 40;
    private static final int TAPE_ROOM = 120;
    private static final int CORNER_ROOM = 6;
    private static final int STREET_ROOM = 8;
    private static final int ACT_ROOM = 24;
    private static final int TRACE_ROOM = 16;
    private static final int IMAGE_ROOM = 2;

    private static final int MOOD_MOST = 9;
    private static final int MUCH_MOST = 9;
    private static final int FEE_MOST = 9;
    private static final int RATE_MOST = 9;
    private static final int METER_MOST = 9999;
    private static final int STEP_MOST = 999;
    private static final int WAY_MOST = 8;
    private static final int DRAWN_MOST = 60;
    private static final int SEED_MOST = 999999;
    private static final int GROWTH_MOST = 999;

    private final Rows rows;
    private final Tape tape;
    private final Town town;
    /** Takes what may come to nothing: a text with a FAULT, a ride only foretold. */
    private final Town trial;
    private final Town[] images;
    private final Acts acts;
    private final Search search;
    private final Asker asker;
    private int status;
    private int fault;

    public MoodFare() {
        rows = new Rows();
        tape = new Tape();
        town = new Town();
        trial = new Town();
        images = new Town[IMAGE_ROOM];
        for (int k = 0; k < IMAGE_ROOM; k++) {
            images[k] = new Town();
        }
        acts = new Acts();
        search = new Search();
        asker = new Asker();
        status = 0;
        fault = 0;
    }

    // ---- rows

    public int row(int row, int lane, int n) {
        if (!Rows.isRow(row) || lane < 0 || lane > 2 || n > ITEM_ROOM) {
            return BAD;
        }
        if (n < 0) {
            return found(SIZE);
        }
        rows.lay(row, lane, n);
        return unfound(n);
    }

    public int set(int row, int i, int v) {
        if (!Rows.isRow(row)) {
            return BAD;
        }
        int finding = rows.findingOf(row, i, 1);
        if (finding != 0) {
            return found(finding);
        }
        return unfound(rows.put(row, i, v));
    }

    public int copy(int a, int i, int b, int j, int n) {
        if (!Rows.isRow(a) || !Rows.isRow(b)) {
            return BAD;
        }
        int finding = rows.findingOfMove(a, i, b, j, n);
        if (finding != 0) {
            return found(finding);
        }
        rows.move(a, i, b, j, n);
        return unfound(n);
    }

    public int drop(int row) {
        if (!Rows.isRow(row)) {
            return BAD;
        }
        if (rows.isMissing(row)) {
            return found(NULL);
        }
        return unfound(rows.lose(row));
    }

    // ---- towns, acts

    public int feed(int letter) {
        if (letter < 0 || letter > 255) {
            return BAD;
        }
        if (tape.length >= TAPE_ROOM) {
            return FULL;
        }
        return tape.put(letter);
    }

    public int town() {
        boolean read = tape.readInto(trial);
        tape.length = 0;
        if (!read) {
            fault = tape.faultNumber;
            return FAULT_BASE - tape.faultPlace;
        }
        town.become(trial);
        acts.forget();
        return town.streets;
    }

    public int fault() {
        return fault;
    }

    public int ride(int street) {
        if (!town.hasStreet(street)) {
            return BAD;
        }
        if (!town.leads(street)) {
            return STATE;
        }
        if (town.step >= STEP_MOST) {
            return FULL;
        }
        acts.keep(Acts.STEP, town.at, town.mood, town.meter);
        town.goBy(street);
        return town.mood;
    }

    public int lesson(int corner, int v) {
        if (!town.hasCorner(corner) || v < 0 || v > MUCH_MOST) {
            return BAD;
        }
        int was = town.muches[corner];
        acts.keep(Acts.LESSON, corner, was, 0);
        town.muches[corner] = v;
        return was;
    }

    public int reset() {
        if (!town.stands()) {
            return STATE;
        }
        int was = town.meter;
        acts.keep(Acts.RESET, was, 0, 0);
        town.meter = 0;
        return was;
    }

    public int street(int street, int on) {
        if (!town.hasStreet(street) || on < 0 || on > 1) {
            return BAD;
        }
        if (town.isOpen(street) == (on == 1)) {
            return STATE;
        }
        acts.keep(Acts.STREET, street, 0, 0);
        town.turn(street);
        return town.open;
    }

    public int undo() {
        if (acts.kept == 0) {
            return STATE;
        }
        acts.takeBack(town);
        return acts.kept;
    }

    public int corner(int corner, int what) {
        if (!town.hasCorner(corner)) {
            return BAD;
        }
        switch (what) {
            case 0: return town.muches[corner];
            case 1: return town.fees[corner];
            case 2: return streetsAt(corner, town.froms);
            case 3: return streetsAt(corner, town.tos);
            case 4: return town.moodBehind(corner, town.mood, town.step);
            default: return BAD;
        }
    }

    public int way(int street, int what) {
        if (!town.hasStreet(street)) {
            return BAD;
        }
        switch (what) {
            case 0: return town.froms[street];
            case 1: return town.tos[street];
            case 2: return town.isOpen(street) ? 1 : 0;
            default: return BAD;
        }
    }

    // ---- foretold

    public int would(int street, int what) {
        if (!town.hasStreet(street) || what < 0 || what > 1) {
            return BAD;
        }
        if (!town.leads(street)) {
            return NONE;
        }
        return what == 0 ? town.moodBy(street) : town.costBy(street);
    }

    public int reach() {
        if (!town.stands()) {
            return STATE;
        }
        return town.openWays();
    }

    public int cheapest(int corner, int k) {
        if (!town.hasCorner(corner) || k < -2 || k >= WAY_MOST) {
            return BAD;
        }
        search.seek(town, Search.CHEAPEST, corner, WAY_MOST);
        if (search.length < 0) {
            return NONE;
        }
        if (k == -1) {
            return search.cost;
        }
        return k == -2 ? search.length : search.streetOf(k);
    }

    public int dearest(int n, int k) {
        if (!town.stands()) {
            return STATE;
        }
        if (n < 0 || n > WAY_MOST || k < -2 || k >= WAY_MOST) {
            return BAD;
        }
        search.seek(town, Search.DEAREST, 0, n);
        if (search.length < 0) {
            return NONE;
        }
        if (k == -1) {
            return search.cost;
        }
        return k == -2 ? search.end : search.streetOf(k);
    }

    public int moods(int corner, int n) {
        if (!town.hasCorner(corner) || n < 0 || n > WAY_MOST) {
            return BAD;
        }
        search.seek(town, Search.MOODS, corner, n);
        return search.moodBits;
    }

    public int gets(int mood, int k) {
        if (!town.stands()) {
            return STATE;
        }
        if (mood < 0 || mood > MOOD_MOST || k < -1 || k >= WAY_MOST) {
            return BAD;
        }
        search.seek(town, Search.GETS, mood, WAY_MOST);
        if (search.length < 0) {
            return NONE;
        }
        return k == -1 ? search.length : search.streetOf(k);
    }

    public int fits(int row, int i, int other, int j, int n, int what) {
        if (!town.stands()) {
            return STATE;
        }
        if (!areFitting(row, other, n, what)) {
            return BAD;
        }
        int finding = findingOfTwo(row, i, other, j, n);
        if (finding != 0) {
            return found(finding);
        }
        int bits = 0;
        int least = what == 0 ? 0 : 1;
        int most = what == 0 ? MOOD_MOST : RATE_MOST;
        for (int v = least; v <= most; v++) {
            trial.become(town);
            if (what == 0) {
                trial.mood = v;
            } else {
                trial.rate = v;
            }
            if (isSo(row, i, other, j, n)) {
                bits |= 1 << v;
            }
        }
        return unfound(bits);
    }

    public int fitsOf(int corner, int row, int i, int other, int j, int n, int what) {
        if (!town.hasCorner(corner) || !areFitting(row, other, n, what)) {
            return BAD;
        }
        int finding = findingOfTwo(row, i, other, j, n);
        if (finding != 0) {
            return found(finding);
        }
        int bits = 0;
        int least = what == 0 ? JOY : 0;
        int most = what == 0 ? RUIN : MUCH_MOST;
        for (int v = least; v <= most; v++) {
            trial.become(town);
            if (what == 0) {
                trial.kinds[corner] = v;
            } else {
                trial.muches[corner] = v;
            }
            if (isSo(row, i, other, j, n)) {
                bits |= 1 << v;
            }
        }
        return unfound(bits);
    }

    public int share(int row, int i, int n, int k) {
        if (!town.stands()) {
            return STATE;
        }
        if (!Rows.isRow(row) || n < 1 || n > WAY_MOST || k < 0 || k >= n) {
            return BAD;
        }
        int finding = rows.findingOf(row, i, n);
        if (finding != 0) {
            return found(finding);
        }
        return unfound(owedFrom(row, i, n, k));
    }

    public int shut(int corner, int q, int c, int what) {
        if (!town.hasCorner(corner) || q < 0 || q > GROWTH_MOST || c < 0 || c > 10
                || what < 0 || what > 1) {
            return BAD;
        }
        search.seekWithin(town, corner, q);
        int above = search.weightOfEnough(town.open, c);
        int below = power(10, Integer.bitCount(town.open));
        // never below 1, as one of the two is not 0; looked at all the same, since it divides
        int divisor = Math.max(1, commonDivisor(above, below));
        return (what == 0 ? above : below) / divisor;
    }

    public int drawn(int n, int seed, int what) {
        if (!town.stands()) {
            return STATE;
        }
        if (n < 0 || n > DRAWN_MOST || seed < 1 || seed > SEED_MOST || what < 0 || what > 1) {
            return BAD;
        }
        trial.become(town);
        long x = seed;
        for (int ridden = 0; ridden < n; ridden++) {
            x = x * 16807L % 2147483647L;
            trial.goByDraw(x);
        }
        return what == 0 ? trial.meter : trial.at;
    }

    public int image(int k) {
        if (k < 0 || k >= IMAGE_ROOM) {
            return BAD;
        }
        if (!town.stands()) {
            return STATE;
        }
        images[k].become(town);
        return 1;
    }

    public int restore(int k) {
        if (k < 0 || k >= IMAGE_ROOM) {
            return BAD;
        }
        if (!images[k].stands()) {
            return STATE;
        }
        town.become(images[k]);
        acts.forget();
        return 1;
    }

    // ---- asked

    public int kind(int corner) {
        return town.hasCorner(corner) ? town.kinds[corner] : BAD;
    }

    public int as(int corner, int kind) {
        if (!town.hasCorner(corner) || kind < 0 || kind > RUIN) {
            return BAD;
        }
        if (!isOfKind(town.kinds[corner], kind)) {
            return found(KIND);
        }
        return unfound(corner);
    }

    public int ask(int corner, int what) {
        if (!town.hasCorner(corner) || what < 0 || what > 1) {
            return BAD;
        }
        return asker.answerOf(town, corner, what);
    }

    public int trace(int i) {
        return i < 0 || i >= asker.begun ? NONE : asker.numbers[i];
    }

    public int count(int what) {
        switch (what) {
            case 0: return rows.howMany();
            case 1: return town.corners;
            case 2: return town.streets;
            case 3: return town.step;
            case 4: return town.at;
            case 5: return town.mood;
            case 6: return acts.kept;
            case 7: return tape.length;
            case 8: return town.meter;
            case 9: return town.open;
            default: return BAD;
        }
    }

    public int status() {
        return status;
    }

    // ---- what several calls need

    private int found(int finding) {
        status = finding;
        return FINDING_BASE - finding;
    }

    private int unfound(int answer) {
        status = 0;
        return answer;
    }

    private int streetsAt(int corner, int[] ends) {
        int bits = 0;
        for (int street = 0; street < town.streets; street++) {
            if (ends[street] == corner) {
                bits |= 1 << street;
            }
        }
        return bits;
    }

    private static boolean areFitting(int row, int other, int n, int what) {
        return Rows.isRow(row) && Rows.isRow(other) && n >= 1 && n <= WAY_MOST
                && what >= 0 && what <= 1;
    }

    private int findingOfTwo(int row, int i, int other, int j, int n) {
        int finding = rows.findingOf(row, i, n);
        return finding != 0 ? finding : rows.findingOf(other, j, n);
    }

    /** Rides the trial town by the STREETS told, as long as each costs what is told. */
    private boolean isSo(int row, int i, int other, int j, int n) {
        for (int ridden = 0; ridden < n; ridden++) {
            int street = rows.items[other][j + ridden];
            if (!trial.leads(street) || trial.costBy(street) != rows.items[row][i + ridden]) {
                return false;
            }
            trial.goBy(street);
        }
        return true;
    }

    private int owedFrom(int row, int i, int n, int k) {
        trial.become(town);
        int owed = 0;
        for (int ridden = 0; ridden < n; ridden++) {
            int street = rows.items[row][i + ridden];
            if (!trial.leads(street)) {
                return NONE;
            }
            if (ridden >= k) {
                owed += trial.costBy(street) / 2;
            }
            trial.goBy(street);
        }
        return owed;
    }

    private static boolean isOfKind(int kind, int asked) {
        switch (asked) {
            case 0: return true;
            case JOY: return kind == JOY || kind == LOVE || kind == HASTE;
            case GRIEF: return kind == GRIEF || kind == RUIN;
            default: return kind == asked;
        }
    }

    private static int power(int base, int times) {
        int product = 1;
        for (int n = 0; n < times; n++) {
            product *= base;
        }
        return product;
    }

    /** Euclid's way halves the numbers every two turns: 64 are more than ints can need. */
    private static int commonDivisor(int a, int b) {
        int high = b;
        int low = a;
        for (int turn = 0; turn < 64 && low != 0; turn++) {
            int rest = high % low;
            high = low;
            low = rest;
        }
        return high;
    }

    /** ROWS, each in room made once: a missing one is a row without a length. */
    private static final class Rows {
        private static final int MISSING = -1;

        final int[] lanes;
        final int[] lengths;
        final int[][] items;

        Rows() {
            lanes = new int[ROW_ROOM];
            lengths = new int[ROW_ROOM];
            items = new int[ROW_ROOM][ITEM_ROOM];
            for (int row = 0; row < ROW_ROOM; row++) {
                lengths[row] = MISSING;
            }
        }

        static boolean isRow(int row) {
            return row >= 0 && row < ROW_ROOM;
        }

        boolean isMissing(int row) {
            return lengths[row] == MISSING;
        }

        int howMany() {
            int rows = 0;
            for (int row = 0; row < ROW_ROOM; row++) {
                if (!isMissing(row)) {
                    rows++;
                }
            }
            return rows;
        }

        void lay(int row, int lane, int n) {
            lanes[row] = lane;
            lengths[row] = n;
            for (int i = 0; i < n; i++) {
                items[row][i] = 0;
            }
        }

        int lose(int row) {
            int had = lengths[row];
            lengths[row] = MISSING;
            return had;
        }

        int put(int row, int i, int v) {
            int kept = v;
            if (lanes[row] == 0) {
                kept = (byte) v;
            } else if (lanes[row] == 1) {
                kept = (short) v;
            }
            items[row][i] = kept;
            return kept;
        }

        void move(int a, int i, int b, int j, int n) {
            System.arraycopy(items[a], i, items[b], j, n);
        }

        int findingOf(int row, int i, int n) {
            if (isMissing(row)) {
                return NULL;
            }
            return spans(row, i, n) ? 0 : PLACE;
        }

        int findingOfMove(int a, int i, int b, int j, int n) {
            if (isMissing(a) || isMissing(b)) {
                return NULL;
            }
            if (lanes[a] != lanes[b]) {
                return STORE;
            }
            return spans(a, i, n) && spans(b, j, n) ? 0 : PLACE;
        }

        /** Subtracts, as i + n could wrap round. */
        private boolean spans(int row, int i, int n) {
            return i >= 0 && n >= 0 && i <= lengths[row] - n;
        }
    }

    /** TOWN, with the rider in it. One without CORNERS is none. */
    private static final class Town {
        final int[] kinds;
        final int[] muches;
        final int[] fees;
        final int[] froms;
        final int[] tos;
        int corners;
        int streets;
        int rate;
        int open;
        int at;
        int mood;
        int meter;
        int step;

        Town() {
            kinds = new int[CORNER_ROOM];
            muches = new int[CORNER_ROOM];
            fees = new int[CORNER_ROOM];
            froms = new int[STREET_ROOM];
            tos = new int[STREET_ROOM];
        }

        void become(Town other) {
            System.arraycopy(other.kinds, 0, kinds, 0, CORNER_ROOM);
            System.arraycopy(other.muches, 0, muches, 0, CORNER_ROOM);
            System.arraycopy(other.fees, 0, fees, 0, CORNER_ROOM);
            System.arraycopy(other.froms, 0, froms, 0, STREET_ROOM);
            System.arraycopy(other.tos, 0, tos, 0, STREET_ROOM);
            corners = other.corners;
            streets = other.streets;
            rate = other.rate;
            open = other.open;
            at = other.at;
            mood = other.mood;
            meter = other.meter;
            step = other.step;
        }

        void clear() {
            corners = 0;
            streets = 0;
            rate = 0;
            open = 0;
            at = 0;
            mood = 0;
            meter = 0;
            step = 0;
        }

        boolean stands() {
            return corners > 0;
        }

        boolean hasCorner(int corner) {
            return corner >= 0 && corner < corners;
        }

        boolean hasStreet(int street) {
            return street >= 0 && street < streets;
        }

        boolean isOpen(int street) {
            return (open >> street & 1) == 1;
        }

        void turn(int street) {
            open ^= 1 << street;
        }

        /** Whether the rider can go by it from where he is AT. */
        boolean leads(int street) {
            return leadsFrom(at, street);
        }

        boolean leadsFrom(int corner, int street) {
            return hasStreet(street) && isOpen(street) && froms[street] == corner;
        }

        int moodBehind(int corner, int ahead, int stepAhead) {
            int much = muches[corner];
            switch (kinds[corner]) {
                case JOY: return Math.min(MOOD_MOST, ahead + much);
                case LOVE: return Math.min(MOOD_MOST, ahead + (ahead > 4 ? 2 * much : much));
                case HASTE: return stepAhead % 2 == 1 ? Math.min(MOOD_MOST, ahead + much) : ahead;
                case GRIEF: return Math.max(0, ahead - much);
                default: return Math.max(0, ahead - much) / 2;
            }
        }

        int costBetween(int corner, int ahead, int behind) {
            return Math.abs(behind - ahead) * rate + fees[corner];
        }

        int moodBy(int street) {
            return moodBehind(tos[street], mood, step);
        }

        int costBy(int street) {
            return costBetween(tos[street], mood, moodBy(street));
        }

        void goBy(int street) {
            meter = Math.min(METER_MOST, meter + costBy(street));
            mood = moodBy(street);
            at = tos[street];
            step++;
        }

        void goByDraw(long x) {
            int ways = 0;
            for (int street = 0; street < streets; street++) {
                if (leads(street)) {
                    ways++;
                }
            }
            if (ways == 0) {
                step++;
                return;
            }
            int ahead = (int) (x % ways);
            for (int street = 0; street < streets; street++) {
                if (leads(street)) {
                    if (ahead == 0) {
                        goBy(street);
                        return;
                    }
                    ahead--;
                }
            }
        }

        /** As many rounds as CORNERS: each round comes at least one STREET further. */
        int openWays() {
            int bits = 1 << at;
            for (int round = 0; round < corners; round++) {
                for (int street = 0; street < streets; street++) {
                    if (isOpen(street) && (bits >> froms[street] & 1) == 1) {
                        bits |= 1 << tos[street];
                    }
                }
            }
            return bits;
        }
    }

    /** THE TAPE, and how a TOWN is read from it. Each reader says whether there was no FAULT. */
    private static final class Tape {
        final int[] bytes;
        int length;
        int faultNumber;
        int faultPlace;
        private int place;

        Tape() {
            bytes = new int[TAPE_ROOM];
        }

        int put(int letter) {
            bytes[length] = letter;
            length++;
            return length;
        }

        boolean readInto(Town town) {
            town.clear();
            place = 0;
            if (!readLaw(town) || !readCorners(town) || !readStreets(town)) {
                return false;
            }
            town.open = (1 << town.streets) - 1;
            return true;
        }

        private boolean readLaw(Town town) {
            if (!takes('t')) {
                return false;
            }
            town.rate = numberWithin(1, RATE_MOST);
            if (town.rate < 0 || !takes(',')) {
                return false;
            }
            town.mood = numberWithin(0, MOOD_MOST);
            return town.mood >= 0 && takes(';');
        }

        private boolean readCorners(Town town) {
            for (int corner = 0; corner <= CORNER_ROOM; corner++) {
                int kind = kindOf(letterHere());
                if (kind == 0) {
                    return corner > 0 || failsAt(place, 1);
                }
                if (corner == CORNER_ROOM) {
                    return failsAt(place, 3);
                }
                place++;
                town.kinds[corner] = kind;
                town.muches[corner] = numberWithin(0, MUCH_MOST);
                if (town.muches[corner] < 0 || !takes(',')) {
                    return false;
                }
                town.fees[corner] = numberWithin(0, FEE_MOST);
                if (town.fees[corner] < 0 || !takes(';')) {
                    return false;
                }
                town.corners++;
            }
            return true;
        }

        private boolean readStreets(Town town) {
            for (int street = 0; street <= STREET_ROOM && place < length; street++) {
                if (letterHere() != 'x') {
                    return failsAt(place, 1);
                }
                if (street == STREET_ROOM) {
                    return failsAt(place, 3);
                }
                place++;
                if (!readEnds(town, street)) {
                    return false;
                }
                town.streets++;
            }
            return true;
        }

        private boolean readEnds(Town town, int street) {
            int from = numberWithin(0, town.corners - 1);
            if (from < 0 || !takes(',')) {
                return false;
            }
            int toPlace = place;
            int to = numberWithin(0, town.corners - 1);
            if (to < 0) {
                return false;
            }
            if (from == to || isTold(town, from, to)) {
                return failsAt(toPlace, 2);
            }
            town.froms[street] = from;
            town.tos[street] = to;
            return takes(';');
        }

        private static boolean isTold(Town town, int from, int to) {
            for (int street = 0; street < town.streets; street++) {
                if (town.froms[street] == from && town.tos[street] == to) {
                    return true;
                }
            }
            return false;
        }

        private static int kindOf(int letter) {
            switch (letter) {
                case 'j': return JOY;
                case 'l': return LOVE;
                case 'h': return HASTE;
                case 'g': return GRIEF;
                case 'r': return RUIN;
                default: return 0;
            }
        }

        private int letterHere() {
            return place < length ? bytes[place] : -1;
        }

        private boolean takes(int letter) {
            if (letterHere() != letter) {
                return failsAt(place, 1);
            }
            place++;
            return true;
        }

        /** Answers -1 on a FAULT. Three figures are looked at, as a run of them is no TOKEN. */
        private int numberWithin(int least, int most) {
            int end = place;
            int value = 0;
            while (end < length && end < place + 3 && bytes[end] >= '0' && bytes[end] <= '9') {
                value = value * 10 + bytes[end] - '0';
                end++;
            }
            boolean isNumber = end > place && end < place + 3;
            if (!isNumber || value < least || value > most) {
                failsAt(place, isNumber ? 2 : 1);
                return -1;
            }
            place = end;
            return value;
        }

        private boolean failsAt(int faulty, int number) {
            faultPlace = faulty;
            faultNumber = number;
            return false;
        }
    }

    /** ACTS that can be undone: a ring, each with what was ahead of it. */
    private static final class Acts {
        static final int STEP = 0;
        static final int LESSON = 1;
        static final int RESET = 2;
        static final int STREET = 3;

        private final int[][] ring;
        private int oldest;
        int kept;

        Acts() {
            ring = new int[ACT_ROOM][4];
        }

        void forget() {
            oldest = 0;
            kept = 0;
        }

        void keep(int what, int first, int second, int third) {
            if (kept == ACT_ROOM) {
                oldest = (oldest + 1) % ACT_ROOM;
                kept--;
            }
            int[] act = ring[(oldest + kept) % ACT_ROOM];
            act[0] = what;
            act[1] = first;
            act[2] = second;
            act[3] = third;
            kept++;
        }

        void takeBack(Town town) {
            if (kept == 0) {
                return;
            }
            kept--;
            int[] act = ring[(oldest + kept) % ACT_ROOM];
            switch (act[0]) {
                case STEP:
                    town.at = act[1];
                    town.mood = act[2];
                    town.meter = act[3];
                    town.step--;
                    break;
                case LESSON:
                    town.muches[act[1]] = act[2];
                    break;
                case RESET:
                    town.meter = act[1];
                    break;
                default:
                    town.turn(act[1]);
                    break;
            }
        }
    }

    /**
     * Looks at all rows of STREETS from now on. Eight one-way STREETS allow some
     * thousand rows of up to eight STEPS, so none needs to be left out; rows of one
     * length come in the order of their numbers, so the first best is kept.
     */
    private static final class Search {
        static final int CHEAPEST = 0;
        static final int DEAREST = 1;
        static final int MOODS = 2;
        static final int GETS = 3;
        static final int WITHIN = 4;

        private final int[] path;
        private final int[] best;
        private final boolean[] enough;
        private int purpose;
        private int aim;
        private int limit;
        private int growthMost;
        /** Of the best row; -1: there is none. */
        int length;
        int cost;
        int end;
        int moodBits;

        Search() {
            path = new int[WAY_MOST];
            best = new int[WAY_MOST];
            enough = new boolean[1 << STREET_ROOM];
        }

        /** The aim is a CORNER, or a MOOD, as the purpose needs it. */
        void seek(Town town, int why, int whereto, int steps) {
            purpose = why;
            aim = whereto;
            limit = Math.min(steps, WAY_MOST);
            length = -1;
            cost = 0;
            end = 0;
            moodBits = 0;
            walk(town, 0, town.at, town.mood, 0, 0);
        }

        /** Marks the sets of STREETS which are enough to come to the CORNER by so much. */
        void seekWithin(Town town, int corner, int most) {
            growthMost = most;
            for (int set = 0; set < enough.length; set++) {
                enough[set] = false;
            }
            seek(town, WITHIN, corner, WAY_MOST);
            for (int set = 0; set < enough.length; set++) {
                for (int street = 0; street < STREET_ROOM; street++) {
                    if (enough[set & ~(1 << street)]) {
                        enough[set] = true;
                    }
                }
            }
        }

        /** How often, of 10 for each open STREET, those that stay open are enough. */
        int weightOfEnough(int open, int c) {
            int weight = 0;
            int streets = Integer.bitCount(open);
            for (int set = 0; set < enough.length; set++) {
                if ((set & ~open) == 0 && enough[set]) {
                    int staying = Integer.bitCount(set);
                    weight += power(10 - c, staying) * power(c, streets - staying);
                }
            }
            return weight;
        }

        int streetOf(int k) {
            return k >= 0 && k < length ? best[k] : NONE;
        }

        private void walk(Town town, int depth, int at, int mood, int grown, int used) {
            weigh(depth, at, mood, grown, used);
            if (depth >= limit) {
                return;
            }
            for (int street = 0; street < town.streets; street++) {
                if (town.leadsFrom(at, street)) {
                    int to = town.tos[street];
                    int behind = town.moodBehind(to, mood, town.step + depth);
                    int more = town.costBetween(to, mood, behind);
                    path[depth] = street;
                    walk(town, depth + 1, to, behind, grown + more, used | 1 << street);
                }
            }
        }

        private void weigh(int depth, int at, int mood, int grown, int used) {
            boolean isFirst = length < 0;
            boolean isLess = grown < cost || grown == cost && depth < length;
            switch (purpose) {
                case CHEAPEST:
                    if (at == aim && (isFirst || isLess)) {
                        keepPath(depth, at, grown);
                    }
                    break;
                case DEAREST:
                    if (depth == limit && (isFirst || grown > cost)) {
                        keepPath(depth, at, grown);
                    }
                    break;
                case MOODS:
                    if (depth == limit && at == aim) {
                        moodBits |= 1 << mood;
                    }
                    break;
                case GETS:
                    if (mood == aim && (isFirst || depth < length)) {
                        keepPath(depth, at, grown);
                    }
                    break;
                default:
                    if (at == aim && grown <= growthMost) {
                        enough[used] = true;
                    }
                    break;
            }
        }

        private void keepPath(int depth, int at, int grown) {
            System.arraycopy(path, 0, best, 0, depth);
            length = depth;
            end = at;
            cost = grown;
        }
    }

    /** ASKS, with THE TRACE of the BODIES that began. */
    private static final class Asker {
        /** By KIND: its own BODY, else that of the nearest KIND that it is, too. */
        private static final int[] SIZE_BODIES = {10, 11, 12, 11, 13, 14};
        private static final int[] MARK_BODIES = {20, 21, 24, 22, 23, 23};

        final int[] numbers;
        int begun;

        Asker() {
            numbers = new int[TRACE_ROOM];
        }

        int answerOf(Town town, int corner, int what) {
            begun = 0;
            int kind = town.kinds[corner];
            int body = what == 0 ? SIZE_BODIES[kind] : MARK_BODIES[kind];
            return gives(body, town, corner, 0);
        }

        /** The longest chain has six BODIES, so the guard never shows in an answer. */
        private int gives(int body, Town town, int corner, int depth) {
            if (depth >= TRACE_ROOM) {
                return 0;
            }
            leave(body);
            int deeper = depth + 1;
            int kind = town.kinds[corner];
            switch (body) {
                case 10: return town.fees[corner];
                case 11: return gives(10, town, corner, deeper)
                        + gives(MARK_BODIES[kind], town, corner, deeper);
                case 12: return -gives(11, town, corner, deeper);
                case 13: return gives(10, town, corner, deeper) - 100;
                case 14: return 2 * gives(13, town, corner, deeper);
                case 20: return corner;
                case 21: return gives(20, town, corner, deeper) + town.muches[corner];
                case 22: return gives(21, town, corner, deeper) - 1000;
                case 23: return gives(20, town, corner, deeper)
                        - gives(SIZE_BODIES[kind], town, corner, deeper);
                case 24: return 2 * gives(21, town, corner, deeper);
                default: return 0;
            }
        }

        private void leave(int body) {
            if (begun < TRACE_ROOM) {
                numbers[begun] = body;
                begun++;
            }
        }
    }
}

import java.util.ArrayList;
import java.util.Arrays;
import java.util.Comparator;
import java.util.List;
import java.util.Random;
import java.util.TreeSet;

/** Random runs of calls, each answer beside that of a slow model written in another way. */
public final class ModelTest {
    private static final int RUNS = 4000;
    private static final int CALLS = 512;
    private static int wrong = 0, calls = 0;

    public static void main(String[] args) {
        for (int run = 0; run < RUNS && wrong < 20; run++) {
            runOnce(run);
        }
        System.out.println(wrong == 0 ? "all answers are as the model's" : wrong + " answers are not as the model's");
        if (wrong != 0) System.exit(1);
    }

    private static void runOnce(int run) {
        Random random = new Random(run);
        MoodFare real = new MoodFare();
        Model model = new Model();
        calls = 0;
        while (calls < CALLS && wrong < 20) {
            if (calls == 0 || random.nextInt(90) == 0) {
                for (char letter : text(random).toCharArray()) {
                    due(run, "feed " + (int) letter, real.feed(letter), model.feed(letter));
                }
                due(run, "town", real.town(), model.town());
            }
            one(run, random, real, model);
        }
    }

    /** Each call comes here; what one beyond the 512th answers is free. */
    private static void due(int run, String call, int got, int want) {
        calls++;
        if (got != want && calls <= CALLS) {
            wrong++;
            System.out.println("run " + run + ": call " + calls + ", " + call + " answered " + got + ", the model " + want);
        }
    }

    private static int near(Random r, int least, int most) {
        int spread = r.nextInt(25) == 0 ? 2 : 0;
        return least - spread + r.nextInt(most - least + 1 + 2 * spread);
    }

    private static String text(Random r) {
        StringBuilder b = new StringBuilder();
        b.append('t').append(1 + r.nextInt(9)).append(',').append(r.nextInt(10)).append(';');
        int corners = 1 + r.nextInt(r.nextInt(20) == 0 ? 7 : 6);
        for (int c = 0; c < corners; c++) {
            b.append("jlhgr".charAt(r.nextInt(5))).append(r.nextInt(10)).append(',').append(r.nextInt(10)).append(';');
        }
        int streets = r.nextInt(4) == 0 ? r.nextInt(10) : 8;
        TreeSet<String> told = new TreeSet<>();
        for (int s = 0; s < streets; s++) {
            int from = s < corners ? s : r.nextInt(corners);
            String street = "x" + from + "," + r.nextInt(corners) + ";";
            boolean isFaulty = street.charAt(1) == street.charAt(3) || told.contains(street);
            if (!isFaulty || r.nextInt(60) == 0) b.append(street);
            told.add(street);
        }
        if (r.nextInt(6) == 0) {
            int at = r.nextInt(b.length());
            String noise = "0123456789,;tjlhgrxaz {A\u00e9";
            char letter = noise.charAt(r.nextInt(noise.length()));
            switch (r.nextInt(4)) {
                case 0 -> b.setCharAt(at, letter);
                case 1 -> b.insert(at, letter);
                case 2 -> b.deleteCharAt(at);
                default -> b.setLength(at);
            }
        }
        if (r.nextInt(40) == 0) {
            while (b.length() < 122) b.append('7');
        }
        return b.toString();
    }

    private static void one(int run, Random r, MoodFare x, Model m) {
        int a = near(r, 0, 7), b = near(r, 0, 7), i = near(r, 0, 9), j = near(r, 0, 9), n = near(r, 1, 8);
        int corner = near(r, 0, 5), street = near(r, 0, 7), what = near(r, 0, 1), k = near(r, -2, 7);
        switch (r.nextInt(40)) {
            case 0 -> { int lane = near(r, 0, 2), len = r.nextInt(9) == 0 ? near(r, -1, 41) : 12 + r.nextInt(4);
                due(run, "row", x.row(a, lane, len), m.row(a, lane, len)); }
            case 1 -> { int v = r.nextBoolean() ? r.nextInt() : r.nextInt(30);
                due(run, "set", x.set(a, i, v), m.set(a, i, v)); }
            case 2 -> { int len = near(r, 0, 8); due(run, "copy", x.copy(a, i, b, j, len), m.copy(a, i, b, j, len));
                int huge = Integer.MAX_VALUE - r.nextInt(3);
                due(run, "copy huge", x.copy(a, i, b, j, huge), m.copy(a, i, b, j, huge)); }
            case 3 -> { if (r.nextInt(4) == 0) due(run, "drop", x.drop(a), m.drop(a)); }
            case 4, 5, 6, 7, 8, 9 -> { int s = r.nextInt(4) == 0 ? street : m.someWay(r);
                due(run, "ride " + s, x.ride(s), m.ride(s)); }
            case 10 -> { int v = near(r, 0, 9); due(run, "lesson", x.lesson(corner, v), m.lesson(corner, v)); }
            case 11 -> { if (r.nextInt(3) == 0) due(run, "reset", x.reset(), m.reset()); }
            case 12, 13 -> { int on = near(r, 0, 1); if (r.nextInt(3) == 0) on = 1;
                due(run, "street", x.street(street, on), m.street(street, on)); }
            case 14 -> { int times = r.nextInt(10) == 0 ? 30 : r.nextInt(3);
                for (int u = 0; u < times; u++) due(run, "undo", x.undo(), m.undo()); }
            case 15 -> { int w = near(r, 0, 4); due(run, "corner", x.corner(corner, w), m.corner(corner, w)); }
            case 16 -> { int w = near(r, 0, 2); due(run, "way", x.way(street, w), m.way(street, w)); }
            case 17 -> due(run, "would", x.would(street, what), m.would(street, what));
            case 18 -> due(run, "reach", x.reach(), m.reach());
            case 19, 20 -> due(run, "cheapest " + corner + " " + k, x.cheapest(corner, k), m.cheapest(corner, k));
            case 21, 22 -> { int len = near(r, 0, 8); due(run, "dearest " + len + " " + k, x.dearest(len, k), m.dearest(len, k)); }
            case 23 -> { int len = near(r, 0, 8); due(run, "moods", x.moods(corner, len), m.moods(corner, len)); }
            case 24 -> { int mood = near(r, 0, 9); due(run, "gets", x.gets(mood, k), m.gets(mood, k)); }
            case 25, 26, 27, 28 -> {
                if (r.nextInt(5) > 0) { a = 0; b = 1; i = 0; j = 0; n = 1 + r.nextInt(3); m.laySoon(r, x, n); }
                due(run, "fits", x.fits(a, i, b, j, n, what), m.fits(a, i, b, j, n, what));
                due(run, "fitsOf", x.fitsOf(corner, a, i, b, j, n, what), m.fitsOf(corner, a, i, b, j, n, what));
                due(run, "status", x.status(), m.status()); }
            case 29 -> { if (r.nextInt(5) > 0) { a = 1; i = 0; n = 1 + r.nextInt(4); m.laySoon(r, x, n); }
                int from = near(r, 0, Math.max(0, n - 1)); due(run, "share", x.share(a, i, n, from), m.share(a, i, n, from)); }
            case 30 -> { int q = r.nextInt(8) == 0 ? near(r, 0, 999) : r.nextInt(120), c = near(r, 0, 10);
                due(run, "shut " + corner + " " + q + " " + c, x.shut(corner, q, c, what), m.shut(corner, q, c, what)); }
            case 31 -> { int len = near(r, 0, 60), seed = near(r, 1, r.nextBoolean() ? 9 : 999999);
                due(run, "drawn", x.drawn(len, seed, what), m.drawn(len, seed, what)); }
            case 32 -> due(run, "image", x.image(what), m.image(what));
            case 33 -> { if (r.nextInt(3) == 0) due(run, "restore", x.restore(what), m.restore(what)); }
            case 34 -> due(run, "kind", x.kind(corner), m.kind(corner));
            case 35 -> { int kind = near(r, 0, 5); due(run, "as", x.as(corner, kind), m.as(corner, kind)); }
            case 36 -> { due(run, "ask", x.ask(corner, what), m.ask(corner, what));
                for (int t = -1; t < 17; t++) due(run, "trace", x.trace(t), m.trace(t)); }
            case 37 -> due(run, "fault", x.fault(), m.fault());
            case 38 -> due(run, "status", x.status(), m.status());
            default -> { for (int w = -1; w < 11; w++) due(run, "count " + w, x.count(w), m.count(w)); }
        }
    }

    // ---- the model

    private record Place(char sort, int much, int fee) { }

    private record Road(int from, int to) { }

    private record Rider(int at, int mood, int meter, int step) { }

    /** A town is never changed, so that what came before is kept by keeping it. */
    private record City(int rate, List<Place> places, List<Road> roads, TreeSet<Integer> open, Rider rider) {
        City withRider(Rider next) { return new City(rate, places, roads, open, next); }
        City withMood(int mood) { return withRider(new Rider(rider.at, mood, rider.meter, rider.step)); }
        City withRate(int next) { return new City(next, places, roads, open, rider); }
        City withOpen(TreeSet<Integer> next) { return new City(rate, places, roads, next, rider); }
        City withPlace(int c, Place place) {
            List<Place> next = new ArrayList<>(places);
            next.set(c, place);
            return new City(rate, next, roads, open, rider);
        }
        List<Integer> ways() {
            List<Integer> ways = new ArrayList<>();
            for (int s : open) if (roads.get(s).from == rider.at) ways.add(s);
            return ways;
        }
        int moodAt(int c) {
            Place p = places.get(c);
            int mood = rider.mood;
            boolean isOdd = rider.step % 2 != 0;
            int change = switch (p.sort) {
                case 'j' -> p.much;
                case 'l' -> mood >= 5 ? p.much * 2 : p.much;
                case 'h' -> isOdd ? p.much : 0;
                default -> -p.much;
            };
            mood = Math.max(0, Math.min(9, mood + change));
            return p.sort == 'r' ? mood / 2 : mood;
        }
        int costOf(int s) {
            int c = roads.get(s).to;
            return Math.abs(moodAt(c) - rider.mood) * rate + places.get(c).fee;
        }
        City gone(int s) {
            int c = roads.get(s).to;
            return withRider(new Rider(c, moodAt(c), Math.min(9999, rider.meter + costOf(s)), rider.step + 1));
        }
    }

    private record Trip(List<Integer> roads, int cost, City city) { }

    private static final class Model {
        private final int[][] rows = new int[8][];
        private final int[] lanes = new int[8];
        private final StringBuilder tape = new StringBuilder();
        private final City[] images = new City[2];
        private final List<City> before = new ArrayList<>();
        private List<Integer> trace = new ArrayList<>();
        private City city = null;
        private int status = 0, fault = 0;

        private boolean noRow(int a) { return a < 0 || a > 7; }
        private boolean noCorner(int c) { return city == null || c < 0 || c >= city.places.size(); }
        private boolean noStreet(int s) { return city == null || s < 0 || s >= city.roads.size(); }
        private boolean out(int v, int least, int most) { return v < least || v > most; }
        private int find(int number) { status = number; return -1000010 - number; }
        private int well(int answer) { status = 0; return answer; }
        private boolean beyond(int a, long i, long n) { return i < 0 || n < 0 || i + n > rows[a].length; }

        int someWay(Random r) {
            if (city == null || city.ways().isEmpty()) return 0;
            return city.ways().get(r.nextInt(city.ways().size()));
        }

        /** Lays costs into ROW 0 and streets into ROW 1, mostly of a ride that can be. */
        void laySoon(Random r, MoodFare x, int n) {
            for (int a = 0; a < 2; a++) {
                due(-1, "row", x.row(a, 2, 12), row(a, 2, 12));
            }
            if (city == null) return;
            City then = r.nextBoolean() ? city : city.withMood(r.nextInt(10));
            for (int i = 0; i < n; i++) {
                List<Integer> ways = then.ways();
                if (ways.isEmpty()) return;
                int s = r.nextInt(30) == 0 ? r.nextInt(9) - 1 : ways.get(r.nextInt(ways.size()));
                int cost = ways.contains(s) ? then.costOf(s) : 3;
                due(-1, "set", x.set(0, i, cost), set(0, i, cost));
                due(-1, "set", x.set(1, i, s), set(1, i, s));
                if (ways.contains(s)) then = then.gone(s);
            }
        }

        int row(int a, int lane, int n) {
            if (noRow(a) || out(lane, 0, 2) || n > 40) return -1000001;
            if (n < 0) return find(4);
            rows[a] = new int[n];
            lanes[a] = lane;
            return well(n);
        }

        int set(int a, int i, int v) {
            if (noRow(a)) return -1000001;
            if (rows[a] == null) return find(1);
            if (beyond(a, i, 1)) return find(2);
            int bits = 32 - (8 << lanes[a]);
            rows[a][i] = v << bits >> bits;
            return well(rows[a][i]);
        }

        int copy(int a, int i, int b, int j, int n) {
            if (noRow(a) || noRow(b)) return -1000001;
            if (rows[a] == null || rows[b] == null) return find(1);
            if (lanes[a] != lanes[b]) return find(5);
            if (beyond(a, i, n) || beyond(b, j, n)) return find(2);
            int[] were = Arrays.copyOfRange(rows[a], i, i + n);
            for (int t = 0; t < n; t++) rows[b][j + t] = were[t];
            return well(n);
        }

        int drop(int a) {
            if (noRow(a)) return -1000001;
            if (rows[a] == null) return find(1);
            int had = rows[a].length;
            rows[a] = null;
            return well(had);
        }

        int feed(int letter) {
            if (out(letter, 0, 255)) return -1000001;
            if (tape.length() == 120) return -1000003;
            tape.append((char) letter);
            return tape.length();
        }

        private record Token(int place, String text) { }

        private static List<Token> tokens(String text) {
            List<Token> all = new ArrayList<>();
            int i = 0;
            while (i < text.length()) {
                int end = i + 1;
                if (Character.toString(text.charAt(i)).matches("[0-9]")) {
                    while (end < text.length() && Character.toString(text.charAt(end)).matches("[0-9]")) end++;
                }
                all.add(new Token(i, text.substring(i, end)));
                i = end;
            }
            all.add(new Token(text.length(), "END"));
            return all;
        }

        private int fail(Token token, int number) {
            fault = number;
            return -1000100 - token.place;
        }

        /** Reads clause by clause: a letter, a number, a comma, a number, a semicolon. */
        int town() {
            List<Token> all = tokens(tape.toString());
            tape.setLength(0);
            int rate = 0, mood = 0, clause = 0;
            List<Place> places = new ArrayList<>();
            List<Road> roads = new ArrayList<>();
            for (int at = 0; ; at += 5, clause++) {
                Token head = all.get(at);
                String may = clause == 0 ? "t" : places.isEmpty() ? "jlhgr" : roads.isEmpty() ? "jlhgrx" : "x";
                if (head.text.equals("END") && !places.isEmpty()) break;
                if (head.text.length() != 1 || !may.contains(head.text)) return fail(head, 1);
                char letter = head.text.charAt(0);
                if (letter == 'x' && roads.size() == 8) return fail(head, 3);
                if (letter != 'x' && letter != 't' && places.size() == 6) return fail(head, 3);
                int[] told = new int[2];
                for (int part = 1; part <= 4; part++) {
                    Token token = all.get(at + part);
                    if (part % 2 == 0) {
                        if (!token.text.equals(part == 2 ? "," : ";")) return fail(token, 1);
                        continue;
                    }
                    if (!token.text.matches("[0-9]{1,2}")) return fail(token, 1);
                    int v = Integer.parseInt(token.text);
                    int least = letter == 't' && part == 1 ? 1 : 0;
                    if (v < least || v > (letter == 'x' ? places.size() - 1 : 9)) return fail(token, 2);
                    told[part / 2] = v;
                    boolean isTo = letter == 'x' && part == 3;
                    if (isTo && (told[0] == v || roads.contains(new Road(told[0], v)))) return fail(token, 2);
                }
                if (letter == 't') { rate = told[0]; mood = told[1]; }
                else if (letter == 'x') roads.add(new Road(told[0], told[1]));
                else places.add(new Place(letter, told[0], told[1]));
            }
            TreeSet<Integer> open = new TreeSet<>();
            for (int s = 0; s < roads.size(); s++) open.add(s);
            city = new City(rate, places, roads, open, new Rider(0, mood, 0, 0));
            before.clear();
            return roads.size();
        }

        int fault() { return fault; }

        private void act(City next) {
            before.add(city);
            if (before.size() > 24) before.remove(0);
            city = next;
        }

        int ride(int s) {
            if (noStreet(s)) return -1000001;
            if (!city.ways().contains(s)) return -1000002;
            act(city.gone(s));
            return city.rider.mood;
        }

        int lesson(int c, int v) {
            if (noCorner(c) || out(v, 0, 9)) return -1000001;
            Place p = city.places.get(c);
            act(city.withPlace(c, new Place(p.sort, v, p.fee)));
            return p.much;
        }

        int reset() {
            if (city == null) return -1000002;
            Rider was = city.rider;
            act(city.withRider(new Rider(was.at, was.mood, 0, was.step)));
            return was.meter;
        }

        private int bits(Iterable<Integer> all) {
            int bits = 0;
            for (int one : all) bits |= 1 << one;
            return bits;
        }

        int street(int s, int on) {
            if (noStreet(s) || out(on, 0, 1)) return -1000001;
            if (city.open.contains(s) == (on == 1)) return -1000002;
            TreeSet<Integer> next = new TreeSet<>(city.open);
            if (on == 1) next.add(s); else next.remove(s);
            act(city.withOpen(next));
            return bits(next);
        }

        int undo() {
            if (before.isEmpty()) return -1000002;
            city = before.remove(before.size() - 1);
            return before.size();
        }

        int corner(int c, int what) {
            if (noCorner(c) || out(what, 0, 4)) return -1000001;
            Place p = city.places.get(c);
            List<Integer> from = new ArrayList<>(), to = new ArrayList<>();
            for (int s = 0; s < city.roads.size(); s++) {
                if (city.roads.get(s).from == c) from.add(s);
                if (city.roads.get(s).to == c) to.add(s);
            }
            return new int[] {p.much, p.fee, bits(from), bits(to), city.moodAt(c)}[what];
        }

        int way(int s, int what) {
            if (noStreet(s) || out(what, 0, 2)) return -1000001;
            Road road = city.roads.get(s);
            return new int[] {road.from, road.to, city.open.contains(s) ? 1 : 0}[what];
        }

        int would(int s, int what) {
            if (noStreet(s) || out(what, 0, 1)) return -1000001;
            if (!city.ways().contains(s)) return -1000000;
            return what == 0 ? city.gone(s).rider.mood : city.costOf(s);
        }

        int reach() {
            if (city == null) return -1000002;
            TreeSet<Integer> at = new TreeSet<>();
            for (Trip trip : trips(0, 8)) at.add(trip.city.rider.at);
            return bits(at);
        }

        /** All rows of least to most STEPS, the shorter ahead, those of one length by numbers. */
        private List<Trip> trips(int least, int most) {
            List<Trip> all = new ArrayList<>(), last = List.of(new Trip(List.of(), 0, city));
            for (int n = 0; n <= most; n++) {
                if (n >= least) all.addAll(last);
                List<Trip> next = new ArrayList<>();
                for (Trip trip : last) {
                    for (int s : trip.city.ways()) {
                        List<Integer> roads = new ArrayList<>(trip.roads);
                        roads.add(s);
                        next.add(new Trip(roads, trip.cost + trip.city.costOf(s), trip.city.gone(s)));
                    }
                }
                last = next;
            }
            return all;
        }

        private int kth(Trip trip, int k) { return k < trip.roads.size() ? trip.roads.get(k) : -1000000; }

        int cheapest(int c, int k) {
            if (noCorner(c) || out(k, -2, 7)) return -1000001;
            return trips(0, 8).stream().filter(t -> t.city.rider.at == c).min(Comparator.comparingInt(t -> t.cost))
                .map(t -> k == -1 ? t.cost : k == -2 ? t.roads.size() : kth(t, k)).orElse(-1000000);
        }

        int dearest(int n, int k) {
            if (city == null) return -1000002;
            if (out(n, 0, 8) || out(k, -2, 7)) return -1000001;
            return trips(n, n).stream().min(Comparator.comparingInt(t -> -t.cost))
                .map(t -> k == -1 ? t.cost : k == -2 ? t.city.rider.at : kth(t, k)).orElse(-1000000);
        }

        int moods(int c, int n) {
            if (noCorner(c) || out(n, 0, 8)) return -1000001;
            TreeSet<Integer> all = new TreeSet<>();
            for (Trip t : trips(n, n)) if (t.city.rider.at == c) all.add(t.city.rider.mood);
            return bits(all);
        }

        int gets(int mood, int k) {
            if (city == null) return -1000002;
            if (out(mood, 0, 9) || out(k, -1, 7)) return -1000001;
            return trips(0, 8).stream().filter(t -> t.city.rider.mood == mood).findFirst()
                .map(t -> k == -1 ? t.roads.size() : kth(t, k)).orElse(-1000000);
        }

        private boolean isSo(City then, int a, int i, int b, int j, int n) {
            for (int t = 0; t < n; t++) {
                int s = rows[b][j + t];
                if (!then.ways().contains(s) || then.costOf(s) != rows[a][i + t]) return false;
                then = then.gone(s);
            }
            return true;
        }

        int fits(int a, int i, int b, int j, int n, int what) {
            if (city == null) return -1000002;
            if (noRow(a) || noRow(b) || out(n, 1, 8) || out(what, 0, 1)) return -1000001;
            for (int[] span : new int[][] {{a, i}, {b, j}}) {
                if (rows[span[0]] == null) return find(1);
                if (beyond(span[0], span[1], n)) return find(2);
            }
            int bits = 0;
            for (int v = what; v <= 9; v++) {
                if (isSo(what == 0 ? city.withMood(v) : city.withRate(v), a, i, b, j, n)) bits += 1 << v;
            }
            return well(bits);
        }

        int fitsOf(int c, int a, int i, int b, int j, int n, int what) {
            if (noCorner(c) || noRow(a) || noRow(b) || out(n, 1, 8) || out(what, 0, 1)) return -1000001;
            for (int[] span : new int[][] {{a, i}, {b, j}}) {
                if (rows[span[0]] == null) return find(1);
                if (beyond(span[0], span[1], n)) return find(2);
            }
            Place p = city.places.get(c);
            int bits = 0;
            if (what == 0) {
                for (int v = 1; v <= 5; v++) {
                    City then = city.withPlace(c, new Place("?jlhgr".charAt(v), p.much, p.fee));
                    if (isSo(then, a, i, b, j, n)) bits += 1 << v;
                }
            } else {
                for (int v = 0; v <= 9; v++) {
                    City then = city.withPlace(c, new Place(p.sort, v, p.fee));
                    if (isSo(then, a, i, b, j, n)) bits += 1 << v;
                }
            }
            return well(bits);
        }

        int share(int a, int i, int n, int k) {
            if (city == null) return -1000002;
            if (noRow(a) || out(n, 1, 8) || out(k, 0, n - 1)) return -1000001;
            if (rows[a] == null) return find(1);
            if (beyond(a, i, n)) return find(2);
            City then = city;
            int owed = 0;
            for (int t = 0; t < n; t++) {
                int s = rows[a][i + t];
                if (!then.ways().contains(s)) return well(-1000000);
                int cost = then.costOf(s);
                int firstPays = t < k ? cost : cost - cost / 2;
                owed += cost - firstPays;
                then = then.gone(s);
            }
            return well(owed);
        }

        /** Tries each set of STREETS that stay open by a search of its own. */
        int shut(int c, int q, int tenths, int what) {
            if (noCorner(c) || out(q, 0, 999) || out(tenths, 0, 10) || out(what, 0, 1)) return -1000001;
            City whole = city;
            List<Integer> open = new ArrayList<>(city.open);
            long above = 0, below = 1;
            for (int s = 0; s < open.size(); s++) below *= 10;
            for (int set = 0; set < 1 << open.size(); set++) {
                long weight = 1;
                TreeSet<Integer> stay = new TreeSet<>();
                for (int s = 0; s < open.size(); s++) {
                    boolean stays = (set >> s & 1) == 1;
                    weight *= stays ? 10 - tenths : tenths;
                    if (stays) stay.add(open.get(s));
                }
                city = whole.withOpen(stay);
                int least = weight == 0 ? -1000000 : cheapest(c, -1);
                if (least >= 0 && least <= q) above += weight;
            }
            city = whole;
            for (long d = 2; d <= 5; d += 3) {
                while (above % d == 0 && below % d == 0) { above /= d; below /= d; }
            }
            return (int) (what == 0 ? above : below);
        }

        int drawn(int n, int seed, int what) {
            if (city == null) return -1000002;
            if (out(n, 0, 60) || out(seed, 1, 999999) || out(what, 0, 1)) return -1000001;
            java.math.BigInteger x = java.math.BigInteger.valueOf(seed);
            City then = city;
            for (int t = 0; t < n; t++) {
                x = x.multiply(java.math.BigInteger.valueOf(16807)).mod(java.math.BigInteger.valueOf(2147483647));
                List<Integer> ways = then.ways();
                Rider r = then.rider;
                if (ways.isEmpty()) then = then.withRider(new Rider(r.at, r.mood, r.meter, r.step + 1));
                else then = then.gone(ways.get(x.mod(java.math.BigInteger.valueOf(ways.size())).intValue()));
            }
            return what == 0 ? then.rider.meter : then.rider.at;
        }

        int image(int k) {
            if (out(k, 0, 1)) return -1000001;
            if (city == null) return -1000002;
            images[k] = city;
            return 1;
        }

        int restore(int k) {
            if (out(k, 0, 1)) return -1000001;
            if (images[k] == null) return -1000002;
            city = images[k];
            before.clear();
            return 1;
        }

        int kind(int c) { return noCorner(c) ? -1000001 : "?jlhgr".indexOf(city.places.get(c).sort); }

        int as(int c, int kind) {
            if (noCorner(c) || out(kind, 0, 5)) return -1000001;
            Sort sort = Sort.of(city.places.get(c).sort);
            Class<?>[] classes = {Sort.class, Joy.class, Love.class, Haste.class, Grief.class, Ruin.class};
            return classes[kind].isInstance(sort) ? well(c) : find(3);
        }

        int ask(int c, int what) {
            if (noCorner(c) || out(what, 0, 1)) return -1000001;
            Place p = city.places.get(c);
            Sort sort = Sort.of(p.sort);
            sort.number = c;
            sort.much = p.much;
            sort.fee = p.fee;
            int answer = what == 0 ? sort.size() : sort.mark();
            trace = sort.trace;
            return answer;
        }

        int trace(int i) { return i >= 0 && i < Math.min(16, trace.size()) ? trace.get(i) : -1000000; }

        int count(int what) {
            if (out(what, 0, 9)) return -1000001;
            int laid = 0;
            for (int[] row : rows) if (row != null) laid++;
            if (what == 0) return laid;
            if (what == 7) return tape.length();
            if (city == null) return 0;
            Rider r = city.rider;
            return new int[] {0, city.places.size(), city.roads.size(), r.step, r.at, r.mood, before.size(), 0,
                r.meter, bits(city.open)}[what];
        }

        int status() { return status; }
    }

    /** The KINDS as Java's own classes, so that its own choice of methods tells the BODIES. */
    private static class Sort {
        final List<Integer> trace = new ArrayList<>();
        int number, much, fee;
        int size() { trace.add(10); return fee; }
        int mark() { trace.add(20); return number; }
        static Sort of(char sort) {
            return switch (sort) {
                case 'j' -> new Joy();
                case 'l' -> new Love();
                case 'h' -> new Haste();
                case 'g' -> new Grief();
                default -> new Ruin();
            };
        }
    }

    private static class Joy extends Sort {
        @Override int size() { trace.add(11); int lent = super.size(); return lent + mark(); }
        @Override int mark() { trace.add(21); return super.mark() + much; }
    }

    private static final class Love extends Joy {
        @Override int size() { trace.add(12); return -super.size(); }
        @Override int mark() { trace.add(24); return super.mark() * 2; }
    }

    private static final class Haste extends Joy {
        @Override int mark() { trace.add(22); return super.mark() - 1000; }
    }

    private static class Grief extends Sort {
        @Override int size() { trace.add(13); return super.size() - 100; }
        @Override int mark() { trace.add(23); int lent = super.mark(); return lent - size(); }
    }

    private static final class Ruin extends Grief {
        @Override int size() { trace.add(14); return super.size() * 2; }
    }
}

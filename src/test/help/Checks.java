import java.lang.reflect.Method;

/** What the tests of the project share: wrong answers are told and counted, towns come from texts, ROWS from numbers. */
class Checks {
    static final int NONE = -1000000, BAD = -1000001, STATE = -1000002, FULL = -1000003;
    static final int NULL = -1000011, PLACE = -1000012, KIND = -1000013, SIZE = -1000014, STORE = -1000015;
    /** Corners: 0 joy, 1 love, 2 haste, 3 grief, 4 ruin. */
    static final String PLAIN = "t3,2;j1,2;l3,0;h4,1;g5,3;r2,4;x0,1;x1,2;x2,0;x0,3;x3,4;x4,0;x2,4;";
    /** Five STREETS from CORNER 0, that cost 0, 2, 4, 6, 8: item() tells by it which of them an ITEM is. */
    static final String HUB = "t1,0;j0,0;j0,0;j0,2;j0,4;j0,6;j0,8;x0,1;x0,2;x0,3;x0,4;x0,5;";

    private static String heading = "";
    private static int wrong = 0, checks = 0, checksOfHeading = 1;

    /** The words of the document that the checks behind it stand for; words without a check are wrong, too. */
    static void says(String words) {
        if (checksOfHeading == 0) {
            wrong++;
            System.out.println("no check of: " + heading);
        }
        heading = words;
        checksOfHeading = 0;
    }

    static void due(String what, int got, int want) {
        checks++;
        checksOfHeading++;
        if (got != want) {
            wrong++;
            System.out.println(heading + ": " + what + " answered " + got + ", due is " + want);
        }
    }

    static void due(int promise, String what, int got, int want) {
        heading = "promise " + promise;
        due(what, got, want);
    }

    static void same(String what, String got, String want) {
        due(what + " (" + got + ", due is " + want + ")", got.equals(want) ? 1 : 0, 1);
    }

    static void end() {
        says("the end");
        System.out.println(checks + " checks, " + wrong + " wrong");
        if (wrong != 0) System.exit(1);
    }

    static void feedAll(MoodFare x, String text) {
        for (int i = 0; i < text.length(); i++) x.feed(text.charAt(i));
    }

    static int read(MoodFare x, String text) {
        feedAll(x, text);
        return x.town();
    }

    static MoodFare of(String text) {
        MoodFare x = new MoodFare();
        read(x, text);
        return x;
    }

    static void lay(MoodFare x, int row, int... items) {
        x.row(row, 2, items.length);
        for (int i = 0; i < items.length; i++) x.set(row, i, items[i]);
    }

    /** Of a rider AT CORNER 0 of HUB: ITEM i, if it is 0 to 4, else NONE, or what is found. */
    static int item(MoodFare x, int row, int i) {
        return x.share(row, i, 1, 0);
    }

    /** Numbers of which count() tells, one behind the other. */
    static String counts(MoodFare x, int... whats) {
        StringBuilder b = new StringBuilder();
        for (int what : whats) b.append(x.count(what)).append(' ');
        return b.toString().trim();
    }

    /** A call by its name; what it throws is told, and answered by a number that no call answers. */
    static int call(MoodFare x, String name, int... args) {
        try {
            for (Method method : MoodFare.class.getMethods()) {
                if (!method.getName().equals(name) || method.getParameterCount() != args.length) continue;
                Object[] boxed = new Object[args.length];
                for (int i = 0; i < args.length; i++) boxed[i] = args[i];
                return (Integer) method.invoke(x, boxed);
            }
        } catch (ReflectiveOperationException thrown) {
            System.out.println(name + " threw " + thrown.getCause());
            return 1234567;
        }
        throw new IllegalArgumentException("no call " + name);
    }

    static String told(String name, int... args) {
        StringBuilder b = new StringBuilder(name).append('(');
        for (int i = 0; i < args.length; i++) b.append(i == 0 ? "" : ", ").append(args[i]);
        return b.append(')').toString();
    }

    static int[] numbers(int... args) {
        return args;
    }
}

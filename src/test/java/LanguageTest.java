import java.lang.reflect.Constructor;
import java.lang.reflect.Field;
import java.lang.reflect.Method;
import java.lang.reflect.Modifier;
import java.nio.file.Files;
import java.nio.file.Path;
import java.util.Set;
import java.util.TreeSet;
import java.util.regex.Matcher;
import java.util.regex.Pattern;

/** The face that the document tells, and those rules of LANGUAGE.md that can be seen from outside or in the text. */
public final class LanguageTest {
    private static final String FACE = "row3 set3 copy5 drop1 feed1 town0 fault0 ride1 lesson2 reset0 street2 undo0 "
        + "corner2 way2 would2 reach0 cheapest2 dearest2 moods2 gets2 fits6 fitsOf7 share4 shut4 drawn3 image1 "
        + "restore1 kind1 as2 ask2 trace1 count1 status0";
    private static final String[] RULED_OUT = {
        "throw", "throws", "try", "catch", "finally", "synchronized", "assert", "import", "package", "->", "::",
        "hashCode", "toString", "\\w+Exact", "System\\.(?!arraycopy)", "Thread", "Random"};
    private static int wrong = 0;

    private static void hold(boolean holds, String what) {
        if (!holds) {
            wrong++;
            System.out.println("not so: " + what);
        }
    }

    public static void main(String[] args) throws Exception {
        face();
        Set<String> told = new TreeSet<>();
        for (String name : FACE.split(" ")) told.add(name.replaceAll("[0-9]", ""));
        Class<?>[] inside = MoodFare.class.getDeclaredClasses();
        hold(inside.length <= 12, "twelve classes at most");
        members(MoodFare.class);
        for (Class<?> one : inside) {
            hold(Modifier.isStatic(one.getModifiers()), one + " is static");
            hold(!Modifier.isPublic(one.getModifiers()), one + " is not public");
            members(one);
            for (Method method : one.getDeclaredMethods()) hold(!told.contains(method.getName()), method + " has a name of its own");
        }
        text(Files.readString(Path.of("src/main/java/MoodFare.java")));
        System.out.println(wrong == 0 ? "the rules hold" : wrong + " rules are broken");
        if (wrong != 0) System.exit(1);
    }

    private static void face() {
        hold(Modifier.isFinal(MoodFare.class.getModifiers()), "the class is final");
        Set<String> open = new TreeSet<>(), told = new TreeSet<>(Set.of(FACE.split(" ")));
        for (Method method : MoodFare.class.getDeclaredMethods()) {
            if (Modifier.isPrivate(method.getModifiers())) {
                hold(told.stream().noneMatch(n -> n.replaceAll("[0-9]", "").equals(method.getName())), method + " has a name of its own");
                continue;
            }
            hold(Modifier.isPublic(method.getModifiers()) && method.getReturnType() == int.class, method + " is told");
            open.add(method.getName() + method.getParameterCount());
        }
        hold(open.equals(told), "the methods are those told, not " + open);
        for (Constructor<?> made : MoodFare.class.getDeclaredConstructors()) {
            hold(Modifier.isPublic(made.getModifiers()) && made.getParameterCount() == 0, made + " is told");
        }
        Set<String> constants = new TreeSet<>();
        for (Field field : MoodFare.class.getDeclaredFields()) {
            if (!Modifier.isPrivate(field.getModifiers())) constants.add(field.getName());
        }
        hold(constants.equals(Set.of("NONE", "BAD", "STATE", "FULL")), "the constants are those told, not " + constants);
    }

    private static void members(Class<?> one) {
        int fields = 0;
        for (Field field : one.getDeclaredFields()) {
            boolean isStatic = Modifier.isStatic(field.getModifiers());
            if (!isStatic) fields++;
            hold(!isStatic || Modifier.isFinal(field.getModifiers()), field + " is final");
        }
        hold(fields <= 20, one + " has twenty fields at most");
        for (Method method : one.getDeclaredMethods()) hold(method.getParameterCount() <= 7, method + " takes seven at most");
    }

    private static void text(String source) {
        String bare = source.replaceAll("(?s)/\\*.*?\\*/", "").replaceAll("//[^\n]*", "");
        for (String word : RULED_OUT) {
            String bounded = Character.isLetter(word.charAt(0)) ? "\\b" + word : word;
            Matcher found = Pattern.compile(bounded + (word.matches("\\w+") ? "\\b" : "")).matcher(bare);
            hold(!found.find(), word + " is not used");
        }
        int began = 0, line = 0;
        for (String text : source.split("\n")) {
            line++;
            if (text.matches(" +[a-z].*\\) \\{") && text.matches(" {4}( {4})?(?!if|for|while|switch|else)[a-zA-Z].*")) began = line;
            if (text.matches(" {4}( {4})?\\}")) hold(began == 0 || line - began <= 60, "sixty lines at most, up to line " + line);
        }
    }
}

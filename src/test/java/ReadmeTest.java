import java.lang.reflect.Method;
import java.lang.reflect.Modifier;
import java.net.URL;
import java.net.URLClassLoader;
import java.nio.file.Files;
import java.nio.file.Path;
import java.util.ArrayList;
import java.util.List;
import java.util.Map;
import java.util.TreeSet;
import java.util.regex.Matcher;
import java.util.regex.Pattern;

/**
 * The example that README.md shows: its blocks of Java, one behind the other, compile beside the class as they stand,
 * and each call in them answers what README.md says behind it.
 */
public final class ReadmeTest extends Checks {
    private static final Pattern BLOCK = Pattern.compile("(?s)```java\n(.*?)```");
    private static final Pattern ANSWERED = Pattern.compile("(x\\.(\\w+)\\(.*?\\)); *// (-?[0-9]+|NONE|BAD|STATE|FULL)(: .*)?");
    /** Makes the object, names a text, or feeds it. */
    private static final Pattern UNANSWERED = Pattern.compile("MoodFare x = .*;|String text = .*;|for \\(.*\\) x\\.feed\\(.*\\);");
    private static final Map<String, Integer> NAMES = Map.of("NONE", NONE, "BAD", BAD, "STATE", STATE, "FULL", FULL);

    private record Said(String call, String name, int answer) { }

    public static void main(String[] args) throws Exception {
        String example = exampleOf(Files.readString(Path.of("README.md")));
        List<Said> said = saidIn(example);
        Path work = Files.createTempDirectory("readme");
        try {
            compiles(work, example);
            answers(work, example, said);
        } finally {
            for (String file : new String[] {"Example.java", "Example.class", "Asked.java", "Asked.class"}) {
                Files.deleteIfExists(work.resolve(file));
            }
            Files.deleteIfExists(work);
        }
        showsEachCall(said);
        end();
    }

    private static String exampleOf(String readme) {
        StringBuilder b = new StringBuilder();
        Matcher block = BLOCK.matcher(readme);
        while (block.find()) b.append(block.group(1));
        return b.toString();
    }

    private static List<Said> saidIn(String example) {
        says("each call is shown with its answer");
        List<Said> said = new ArrayList<>();
        for (String line : example.split("\n")) {
            Matcher answered = ANSWERED.matcher(line);
            if (answered.matches()) {
                String answer = answered.group(3);
                int want = NAMES.containsKey(answer) ? NAMES.get(answer) : Integer.parseInt(answer);
                said.add(new Said(answered.group(1), answered.group(2), want));
            } else {
                due(line, UNANSWERED.matcher(line).matches() ? 1 : 0, 1);
            }
        }
        return said;
    }

    private static void compiles(Path work, String example) throws Exception {
        says("the example compiles as it stands");
        due("javac", compile(work, "Example", "public static void main(String[] args) {\n" + example + "}"), 0);
    }

    private static void answers(Path work, String example, List<Said> said) throws Exception {
        says("the example answers as README.md says");
        StringBuilder b = new StringBuilder("public static int[] answers() {\nint[] answers = new int[").append(said.size());
        b.append("];\nint n = 0;\n");
        for (String line : example.split("\n")) {
            b.append(ANSWERED.matcher(line).matches() ? "answers[n++] = " : "").append(line).append('\n');
        }
        due("javac", compile(work, "Asked", b.append("return answers;\n}").toString()), 0);
        try (URLClassLoader loader = new URLClassLoader(new URL[] {work.toUri().toURL()})) {
            int[] answers = (int[]) loader.loadClass("Asked").getMethod("answers").invoke(null);
            for (int n = 0; n < answers.length; n++) due(said.get(n).call, answers[n], said.get(n).answer);
        }
    }

    private static void showsEachCall(List<Said> said) {
        says("the example shows each call");
        TreeSet<String> shown = new TreeSet<>(), face = new TreeSet<>();
        for (Said one : said) shown.add(one.name);
        for (Method method : MoodFare.class.getDeclaredMethods()) {
            if (Modifier.isPublic(method.getModifiers())) face.add(method.getName());
        }
        same("calls", shown.toString(), face.toString());
    }

    private static int compile(Path work, String name, String body) throws Exception {
        Path file = work.resolve(name + ".java");
        Files.writeString(file, "public class " + name + " {\n" + body + "\n}\n");
        String classes = System.getProperty("java.class.path");
        return new ProcessBuilder("javac", "-cp", classes, "-d", work.toString(), file.toString()).inheritIO().start().waitFor();
    }
}

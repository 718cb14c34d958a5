import java.io.IOException;
import java.lang.reflect.Method;
import java.lang.reflect.Modifier;
import java.nio.file.DirectoryStream;
import java.nio.file.Files;
import java.nio.file.Path;
import java.util.HashMap;
import java.util.Map;
import java.util.regex.Matcher;
import java.util.regex.Pattern;

/** What README.md shows answers as README.md says, and it names every call, every constant and every test. */
public final class ReadmeTest {
    private static final Pattern LINE =
        Pattern.compile("(?:int (\\w+) = )?t\\.(\\w+)\\(([^()]*)\\);\\s+// (-?\\d+)(?::.*)?");
    private static final int LEAST_LINES = 15;

    private ReadmeTest() {
    }

    public static void main(String[] args) throws IOException, ReflectiveOperationException {
        String page = Files.readString(Path.of("README.md"));
        example(page);
        namesAllCalls(page);
        namesAllAnswers(page);
        namesAllTests(page);
        Check.end();
    }

    private static void example(String page) throws ReflectiveOperationException {
        int from = page.indexOf("```java\n");
        int to = page.indexOf("\n```", from + 1);
        Check.due("README.md shows an example", from >= 0 && to > from ? 1 : 0, 1);
        String[] lines = page.substring(from + 8, to).split("\n");
        Check.due("it makes an object first", lines[0].equals("GroupTowers t = new GroupTowers();") ? 1 : 0, 1);
        Check.due("lines", lines.length > LEAST_LINES ? 1 : 0, 1);
        GroupTowers t = new GroupTowers();
        Map<String, Integer> known = new HashMap<>();
        for (int i = 1; i < lines.length; i++) {
            Matcher line = LINE.matcher(lines[i]);
            boolean clear = line.matches();
            Check.due("the line can be read: " + lines[i], clear ? 1 : 0, 1);
            if (clear) {
                int answer = call(t, line.group(2), line.group(3), known);
                Check.due("README.md: " + lines[i], answer, Integer.parseInt(line.group(4)));
                known.put(line.group(1), answer);
            }
        }
    }

    private static int call(GroupTowers t, String name, String given, Map<String, Integer> known)
            throws ReflectiveOperationException {
        String[] words = given.isEmpty() ? new String[0] : given.split(", ");
        Class<?>[] types = new Class<?>[words.length];
        Object[] numbers = new Object[words.length];
        for (int i = 0; i < words.length; i++) {
            types[i] = int.class;
            numbers[i] = known.containsKey(words[i]) ? known.get(words[i]) : Integer.valueOf(words[i]);
        }
        return (Integer) GroupTowers.class.getMethod(name, types).invoke(t, numbers);
    }

    private static void namesAllCalls(String page) {
        for (Method m : GroupTowers.class.getDeclaredMethods()) {
            if (Modifier.isPublic(m.getModifiers())) {
                Check.due("named: " + m.getName(), page.contains("`" + m.getName() + "`") ? 1 : 0, 1);
            }
        }
        Check.due("how one is made", page.contains("`new GroupTowers()`") ? 1 : 0, 1);
        Check.due("where the document lies", page.contains("`../shared/DOC.md`") ? 1 : 0, 1);
    }

    private static void namesAllAnswers(String page) {
        int[] values = {GroupTowers.BAD, GroupTowers.STATE, GroupTowers.FULL, GroupTowers.NONE, GroupTowers.SPENT};
        String[] names = {"BAD", "STATE", "FULL", "NONE", "SPENT"};
        for (int i = 0; i < names.length; i++) {
            Check.due("told: " + names[i], page.contains("`" + names[i] + "`, " + values[i] + " ") ? 1 : 0, 1);
        }
    }

    private static void namesAllTests(String page) throws IOException {
        try (DirectoryStream<Path> tests = Files.newDirectoryStream(Path.of("src/test/java"), "*Test.java")) {
            for (Path test : tests) {
                String name = test.getFileName().toString().replace(".java", "");
                Check.due("in the table: " + name, page.contains("| " + name + " |") ? 1 : 0, 1);
            }
        }
    }
}

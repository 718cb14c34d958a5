import java.io.IOException;
import java.lang.reflect.Field;
import java.lang.reflect.Method;
import java.lang.reflect.Modifier;
import java.nio.file.Files;
import java.nio.file.Path;
import java.util.ArrayList;
import java.util.List;
import java.util.Set;
import java.util.TreeSet;
import java.util.regex.Matcher;
import java.util.regex.Pattern;

/** What of ../shared/LANGUAGE.md a machine can see: no more than a first look at the file. */
public final class LanguageTest {
    private static final String FILE = "src/main/java/GroupTowers.java";
    private static final Set<String> LIBRARY = Set.of("Math.abs", "Math.min", "Math.max", "Math.floorMod",
        "Math.floorDiv", "Integer.compare", "Integer.min", "Integer.max", "Integer.bitCount", "Long.bitCount",
        "Long.min", "Long.max", "Arrays.fill", "Arrays.copyOf", "Arrays.copyOfRange", "System.arraycopy");
    private static final int MOST_LINES = 60;

    private LanguageTest() {
    }

    public static void main(String[] args) throws IOException {
        String text = Files.readString(Path.of(FILE));
        String code = withoutComments(text);
        noWords(code);
        onlyTheLibrary(code);
        shortMethods(code);
        Check.due("signs of texts and code", text.chars().allMatch(sign -> sign == '\n' || sign >= 32 && sign < 127)
            ? 1 : 0, 1);
        List<Class<?>> all = new ArrayList<>(List.of(GroupTowers.class.getDeclaredClasses()));
        Check.due("classes", all.size() <= 11 ? 1 : 0, 1);
        all.add(GroupTowers.class);
        for (Class<?> one : all) {
            shape(one);
        }
        Check.end();
    }

    private static String withoutComments(String text) {
        return text.replaceAll("(?s)/\\*.*?\\*/", " ").replaceAll("//[^\n]*", " ");
    }

    /** Rules 2, 3, 6, 13. */
    private static void noWords(String code) {
        for (String word : new String[] {"throw", "throws", "try", "catch", "finally", "synchronized", "assert",
            "volatile", "transient", "native", "strictfp", "var", "package", "equals", "hashCode", "toString",
            "super", "Object", "Exception", "Error", "Thread", "nanoTime", "currentTimeMillis", "Random", "File"}) {
            Check.due("no " + word, Pattern.compile("\\b" + word + "\\b").matcher(code).find() ? 1 : 0, 0);
        }
        Check.due("no lambda", code.contains("->") ? 1 : 0, 0);
        Check.due("no method reference", code.contains("::") ? 1 : 0, 0);
        Check.due("no annotation", code.contains("@") ? 1 : 0, 0);
        Check.due("no anonymous class", Pattern.compile("new \\w+\\([^;]*\\)\\s*\\{").matcher(code).find() ? 1 : 0, 0);
        Check.due("no static block", Pattern.compile("static\\s*\\{").matcher(code).find() ? 1 : 0, 0);
        Check.due("no name that ends in Exact", code.contains("Exact(") ? 1 : 0, 0);
    }

    /** Rule 4. */
    private static void onlyTheLibrary(String code) {
        Set<String> imports = new TreeSet<>();
        Matcher one = Pattern.compile("import ([\\w.]+);").matcher(code);
        while (one.find()) {
            imports.add(one.group(1));
        }
        Check.due("imports: " + imports, Set.of("java.util.Arrays", "java.util.ArrayList", "java.util.List")
            .containsAll(imports) ? 1 : 0, 1);
        Matcher call = Pattern.compile("\\b((?:Math|Integer|Long|Arrays|System|String|List)\\.\\w+)").matcher(code);
        while (call.find()) {
            if (!call.group(1).startsWith("List.") && !imports.contains("java.util." + call.group(1))) {
                Check.due("of the library: " + call.group(1), LIBRARY.contains(call.group(1)) ? 1 : 0, 1);
            }
        }
    }

    /** Rule 11. */
    private static void shortMethods(String code) {
        String[] lines = code.split("\n", -1);
        for (int i = 0; i < lines.length; i++) {
            if (lines[i].matches("\\s+[\\w\\[\\]<> ]+\\([^;]*\\) \\{") && !lines[i].matches("\\s+(if|for|while|switch).*")) {
                String end = lines[i].replaceAll("\\S.*", "") + "}";
                int length = 1;
                while (i + length < lines.length && !lines[i + length - 1].equals(end)) {
                    length++;
                }
                Check.due("lines of" + lines[i] + ": " + length, length <= MOST_LINES ? 1 : 0, 1);
            }
        }
    }

    /** Rules 1, 2, 5, 11. */
    private static void shape(Class<?> one) {
        int fields = 0;
        for (Field f : one.getDeclaredFields()) {
            boolean isStatic = Modifier.isStatic(f.getModifiers());
            fields += isStatic ? 0 : 1;
            Check.due(f + " is final, if static", !isStatic || Modifier.isFinal(f.getModifiers()) ? 1 : 0, 1);
        }
        Check.due("fields of " + one, fields <= 20 ? 1 : 0, 1);
        for (Method m : one.getDeclaredMethods()) {
            Check.due("parameters of " + m, m.getParameterCount() <= 7 ? 1 : 0, 1);
        }
        Check.due("classes inside " + one, one == GroupTowers.class || one.getDeclaredClasses().length == 0 ? 1 : 0, 1);
    }
}

import java.lang.reflect.InvocationTargetException;
import java.lang.reflect.Method;
import java.lang.reflect.Modifier;
import java.nio.file.Files;
import java.nio.file.Path;
import java.util.Arrays;
import java.util.Set;
import java.util.TreeSet;
import java.util.regex.Matcher;
import java.util.regex.Pattern;

/** What README.md tells of the class is so: its example answers as told, and its tables name the face's calls, no others. */
public final class ReadmeTests {
    private static final Pattern LINE = Pattern.compile("x\\.(\\w+)\\(([^)]*)\\); *// (\"[^\"]*\"|[^:]*)(: .*)?");
    private static final Pattern NAMED = Pattern.compile("`(\\w+)\\(([^)]*)\\)`");

    public static void main(String[] args) throws Exception {
        String page = Files.readString(Path.of("README.md"));
        example(page);
        calls(page);
        Checks.finish();
    }

    private static void example(String page) throws Exception {
        String[] parts = page.split("\n```(java\n)?");
        Checks.due("README.md has one example", 3, parts.length);
        String[] lines = parts[1].split("\n");
        Checks.due("its first line", "Setsalike x = new Setsalike();", lines[0]);
        Setsalike x = new Setsalike();
        for (int i = 1; i < lines.length; i++) {
            Matcher line = LINE.matcher(lines[i]);
            Checks.due("README.md, a call and its answer: " + lines[i], true, line.matches());
            Checks.due("README.md: " + lines[i], line.group(3), answer(x, line.group(1), line.group(2)));
        }
    }

    private static String answer(Setsalike x, String name, String told) throws Exception {
        String[] words = told.isEmpty() ? new String[0] : told.split(", ");
        Class<?>[] types = new Class<?>[words.length];
        Arrays.fill(types, int.class);
        Object[] numbers = Arrays.stream(words).map(Integer::valueOf).toArray();
        try {
            Object answer = Setsalike.class.getMethod(name, types).invoke(x, numbers);
            return answer instanceof String ? "\"" + answer + "\"" : answer.toString();
        } catch (InvocationTargetException e) {
            return "throws " + e.getCause().getClass().getSimpleName();
        }
    }

    private static void calls(String page) {
        Set<String> face = new TreeSet<>();
        for (Method m : Setsalike.class.getDeclaredMethods()) {
            if (Modifier.isPublic(m.getModifiers())) {
                face.add(m.getName() + " with " + m.getParameterCount());
            }
        }
        Set<String> named = new TreeSet<>();
        Matcher all = NAMED.matcher(page.substring(page.indexOf("### The calls")));
        while (all.find()) {
            int amount = all.group(2).isEmpty() ? 0 : all.group(2).split(", ").length;
            named.add(all.group(1) + " with " + amount);
        }
        Checks.due("README.md names all calls", face, named);
    }
}

import java.nio.file.Files;
import java.nio.file.Path;
import java.util.ArrayList;
import java.util.HashMap;
import java.util.HashSet;
import java.util.List;
import java.util.Map;
import java.util.Set;
import java.util.regex.Matcher;
import java.util.regex.Pattern;

/** Those rules of ../shared/LANGUAGE.md that the program's text tells by itself; the others want a reader. */
public final class LanguageTests {
    private static final Pattern METHOD = Pattern.compile(
            "\n {4,8}(?:(?:public|private|static|final) )*(?:[\\w\\[\\]]+ )?(\\w+)\\(([^()]*)\\)\\s*"
            + "(?:throws [\\w, ]+)?\\{\n");
    private static final Pattern CALL = Pattern.compile("(\\w+)\\(");
    private static final String THROWN = "IllegalStateException|IllegalArgumentException|IndexOutOfBoundsException|"
            + "ArithmeticException|UnsupportedOperationException|NoSuchElementException|RuntimeException";

    public static void main(String[] args) throws Exception {
        String whole = Files.readString(Path.of("src/main/java/Setsalike.java"));
        String code = whole.replaceAll("(?s)/\\*.*?\\*/", "").replaceAll("//[^\n]*", "");
        signs(whole);
        forbidden(code.replaceAll("\"[^\"\n]*\"", "\"\""));
        throwing(code);
        sizes(code.replaceAll("\"[^\"\n]*\"", "\"\""));
        depth(code.replaceAll("\"[^\"\n]*\"", "\"\""));
        Checks.finish();
    }

    private static void signs(String whole) {
        Checks.due("rule 4: a sign beyond 1 to 127", true, whole.chars().allMatch(c -> 1 <= c && c <= 127));
    }

    private static void forbidden(String code) {
        String[] never = {
            "\\bimport\\b", "\\bpackage\\b", "->", "::", "\\btry\\b", "\\bcatch\\b", "\\bfinally\\b", "\\bsynchronized\\b",
            "\\bassert\\b", "\\bstatic \\{", "\\bprotected\\b", "\\bvolatile\\b", "\\btransient\\b", "\\bnative\\b",
            "\\bvar\\b", "\\byield\\b", "\\bSystem\\.(?!arraycopy)", "Exact\\(", "getMessage", "NaN", "\\bThread\\b",
            "\\bequals\\(", "\\bhashCode\\(", "\\btoString\\([^)]", "\"\" *\\+", "\\+ *\"\"", "\\bObject\\b",
            "\\bMath\\.(?!max|min|abs|floorDiv|floorMod)", "\\bstatic (?!final|int|long|boolean|void|Things|class)",
        };
        for (String one : never) {
            Matcher m = Pattern.compile(one).matcher(code);
            Checks.due("not in LANGUAGE.md: " + one, "", m.find() ? m.group() : "");
        }
    }

    private static void throwing(String code) {
        Matcher all = Pattern.compile("\\bthrow\\b[^;]*;").matcher(code);
        while (all.find()) {
            String form = "throw new (" + THROWN + ")\\((\"[^\"]*\")?\\);";
            Checks.due("rule 6: " + all.group(), true, all.group().matches(form));
        }
    }

    private static void sizes(String code) {
        int classes = code.split("\\bclass\\b", -1).length - 1;
        Checks.due("rule 11: classes, " + classes, true, classes <= 12);
        for (Map.Entry<String, String> method : methods(code).entrySet()) {
            int lines = method.getValue().split("\n").length;
            Checks.due("rule 11: lines of " + method.getKey(), true, lines <= 60);
        }
        Matcher m = METHOD.matcher(code);
        while (m.find()) {
            Checks.due("rule 11: parameters of " + m.group(1), true, m.group(2).split(",").length <= 7);
        }
    }

    /** Methods of the same name count as one here, which makes the depth too great rather than too small. */
    private static void depth(String code) {
        Map<String, String> bodies = methods(code);
        Checks.due("the methods are found", true, bodies.size() > 47 && bodies.containsKey("digest"));
        Map<String, Integer> known = new HashMap<>();
        for (String name : bodies.keySet()) {
            int deep = deepFrom(name, bodies, known, new HashSet<>());
            Checks.due("rule 11: calls from " + name + " go " + deep + " deep", true, deep <= 8);
        }
    }

    private static int deepFrom(String name, Map<String, String> bodies, Map<String, Integer> known, Set<String> open) {
        if (known.containsKey(name)) {
            return known.get(name);
        }
        open.add(name);
        int deepest = 0;
        for (String called : calledBy(bodies.get(name))) {
            // The class has no need of it, so that none has to be looked through for its end.
            Checks.due("rule 8: recursion by " + called, false, open.contains(called));
            if (bodies.containsKey(called) && !open.contains(called)) {
                deepest = Math.max(deepest, deepFrom(called, bodies, known, open));
            }
        }
        open.remove(name);
        known.put(name, deepest + 1);
        return deepest + 1;
    }

    private static List<String> calledBy(String body) {
        List<String> names = new ArrayList<>();
        Matcher m = CALL.matcher(body);
        while (m.find()) {
            names.add(m.group(1));
        }
        return names;
    }

    /** Each method's and constructor's lines behind its head, up to the brace that ends it. */
    private static Map<String, String> methods(String code) {
        Map<String, String> bodies = new HashMap<>();
        Matcher m = METHOD.matcher(code);
        int from = 0;
        while (m.find(from)) {
            String indent = m.group().substring(1, m.group().length() - m.group().stripLeading().length());
            int end = code.indexOf("\n" + indent + "}", m.end() - 1);
            bodies.merge(m.group(1), code.substring(m.end(), end), (a, b) -> a + b);
            from = end;
        }
        return bodies;
    }
}

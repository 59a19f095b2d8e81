import java.lang.reflect.Constructor;
import java.lang.reflect.Field;
import java.lang.reflect.Method;
import java.lang.reflect.Modifier;
import java.util.Set;
import java.util.TreeSet;

/** The public face is the document's, to the letter, and nothing else can be reached from outside. */
public final class FaceTests {
    private static final String I = " IndexOutOfBoundsException";
    private static final String A = " IllegalArgumentException";
    private static final String S = " IllegalStateException";

    private static final String[] FACE = {
        "int put(int,int,int)" + I + A, "int drop(int,int)" + I + A, "int clear(int)" + I,
        "int dropIf(int,int,int)" + I + A, "int pick(int,int,int)" + I + A, "int row(int,int)" + A,
        "int clearRow()", "int putRow(int)" + I, "int join(int,int)" + I + A + S,
        "int less(int,int)" + I + A, "int common(int,int)" + I + A, "int copy(int,int)" + I + A + S,
        "int swap(int,int)" + I + A + S, "boolean has(int,int)" + I + A, "int size(int)" + I,
        "boolean isEmpty(int)" + I, "int mark(int,int)" + I + A, "String text(int)" + I, "int hash(int)" + I,
        "int sum(int)" + I, "int many(int,int,int)" + I + A, "int first(int)" + I + S,
        "int at(int,int)" + I + A + S, "boolean isAlike(int,int)" + I, "boolean holds(int,int)" + I,
        "boolean holdsRow(int)" + I, "boolean isApart(int,int)" + I, "int often(int,int)" + I + A,
        "String rowText()", "int withNothing(int,int)" + I + A, "int seen(int,int)" + I + A,
        "boolean seenHas(int,int)" + I + A, "int meddle(int,int)" + I + A, "int walk(int,int)" + I + S,
        "boolean hasNext(int)" + I + S, "int next(int)" + I + S, "int takeAway(int)" + I + S,
        "int rest(int)" + I + S, "int ofWalk(int)" + I, "int bring(int)" + I, "int remove(int)" + I,
        "boolean isIn(int)" + I, "int family(int)" + A, "int house(int)" + A, "int knock()",
        "boolean isSound()", "long digest()",
    };

    public static void main(String[] args) {
        methods();
        others();
        inside();
        Checks.finish();
    }

    private static void methods() {
        Set<String> want = new TreeSet<>(Set.of(FACE));
        Set<String> got = new TreeSet<>();
        Set<String> publicNames = new TreeSet<>();
        for (Method m : Setsalike.class.getDeclaredMethods()) {
            if (Modifier.isPublic(m.getModifiers())) {
                got.add(told(m));
                publicNames.add(m.getName());
            }
        }
        Checks.due("the face", want, got);
        for (Method m : Setsalike.class.getDeclaredMethods()) {
            if (!Modifier.isPublic(m.getModifiers())) {
                Checks.due(m + " is private", true, Modifier.isPrivate(m.getModifiers()));
                Checks.due(m + " bears a public name", false, publicNames.contains(m.getName()));
            }
        }
    }

    private static String told(Method m) {
        StringBuilder page = new StringBuilder();
        page.append(m.getReturnType().getSimpleName()).append(' ').append(m.getName()).append('(');
        for (Class<?> p : m.getParameterTypes()) {
            page.append(page.charAt(page.length() - 1) == '(' ? "" : ",").append(p.getSimpleName());
        }
        page.append(')');
        for (Class<?> e : m.getExceptionTypes()) {
            page.append(' ').append(e.getSimpleName());
        }
        return page.toString();
    }

    private static void others() {
        int modifiers = Setsalike.class.getModifiers();
        Checks.due("public and final", true, Modifier.isPublic(modifiers) && Modifier.isFinal(modifiers));
        Constructor<?>[] made = Setsalike.class.getDeclaredConstructors();
        Checks.due("constructors", 1, made.length);
        Checks.due("the constructor", 0, made[0].getParameterCount());
        Checks.due("it is public", true, Modifier.isPublic(made[0].getModifiers()));
        for (Field f : Setsalike.class.getDeclaredFields()) {
            Checks.due(f + " is private", true, Modifier.isPrivate(f.getModifiers()));
            Checks.due(f + " is final or its object's own", true,
                    Modifier.isFinal(f.getModifiers()) || !Modifier.isStatic(f.getModifiers()));
        }
    }

    private static void inside() {
        for (Class<?> c : Setsalike.class.getDeclaredClasses()) {
            int modifiers = c.getModifiers();
            Checks.due(c + " is static", true, Modifier.isStatic(modifiers));
            Checks.due(c + " is seen from outside", false,
                    Modifier.isPublic(modifiers) || Modifier.isProtected(modifiers));
            for (Field f : c.getDeclaredFields()) {
                Checks.due(f + " is its object's own", false, Modifier.isStatic(f.getModifiers()));
            }
        }
        Checks.due("it extends nothing", Object.class, Setsalike.class.getSuperclass());
        Checks.due("it implements nothing", 0, Setsalike.class.getInterfaces().length);
    }
}

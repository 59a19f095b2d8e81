import java.lang.reflect.InvocationTargetException;
import java.lang.reflect.Method;
import java.util.Arrays;

/**
 * Each method of the face with each choice of numbers at the edges, several wrong ones at once too, in three states;
 * the answer or the exception, and all that is there behind it, have to be the Model's.
 */
public final class CornerTests {
    private static final int[] NUMBERS = {
        Integer.MIN_VALUE, -1, 0, 1, 2, 3, 4, 5, 6, 8, 9, 10, 12, 29, 30, Integer.MAX_VALUE
    };
    private static final String[] STATES = {
        "",
        "put 0 8 8, put 0 3 3, put 0 5 0, put 1 3 9, put 1 2 2, put 1 8 1, put 3 29 9, put 3 5 5, put 4 0 0, row 12 2,"
        + " row 3 0, row 12 4, bring 0, bring 2, bring 3, knock, walk 0 0, next 0, walk 1 1, next 1, takeAway 1",
        "put 5 0 0, bring 5, put 5 1 0, bring 5, put 5 2 0, bring 5, put 5 3 0, bring 5, put 5 4 0, bring 5, put 5 5 0,"
        + " bring 5, put 5 6 0, bring 5, put 5 29 9, bring 5, put 0 29 9, put 2 12 2, put 2 0 0, row 0 0, row 1 1,"
        + " row 2 2, row 3 3, row 4 4, row 5 5, row 6 6, row 7 7, row 8 8, row 9 9, row 10 0, row 29 9, walk 0 2,"
        + " walk 1 2, next 1, next 1",
    };

    public static void main(String[] args) throws Exception {
        int methods = 0;
        for (Method method : Model.class.getDeclaredMethods()) {
            if (java.lang.reflect.Modifier.isPublic(method.getModifiers())) {
                methods++;
                allNumbers(method.getName(), new Object[method.getParameterCount()], 0);
            }
        }
        Checks.due("methods of the face", 47, methods);
        Checks.finish();
    }

    private static void allNumbers(String name, Object[] args, int from) throws Exception {
        if (from == args.length) {
            for (String state : STATES) {
                compare(name, args, state);
            }
            return;
        }
        for (int number : NUMBERS) {
            args[from] = number;
            allNumbers(name, args, from + 1);
        }
    }

    private static void compare(String name, Object[] args, String state) throws Exception {
        Setsalike x = new Setsalike();
        Model m = new Model();
        make(x, state);
        make(m, state);
        String which = name + Arrays.toString(args) + " behind " + state;
        Checks.due(which, answer(m, name, args), answer(x, name, args));
        Checks.due("the digest behind " + which, m.digest(), x.digest());
        for (int walk = 0; walk < 2; walk++) {
            Object[] which1 = {walk};
            Checks.due("takeAway behind " + which, answer(m, "takeAway", which1), answer(x, "takeAway", which1));
            Checks.due("rest behind " + which, answer(m, "rest", which1), answer(x, "rest", which1));
        }
    }

    private static void make(Object object, String state) throws Exception {
        for (String call : state.isEmpty() ? new String[0] : state.split(", ")) {
            String[] words = call.trim().split(" ");
            Object[] args = new Object[words.length - 1];
            for (int i = 0; i < args.length; i++) {
                args[i] = Integer.parseInt(words[i + 1]);
            }
            answer(object, words[0], args);
        }
    }

    private static Object answer(Object object, String name, Object[] args) throws Exception {
        Class<?>[] types = new Class<?>[args.length];
        Arrays.fill(types, int.class);
        try {
            return object.getClass().getMethod(name, types).invoke(object, args);
        } catch (InvocationTargetException e) {
            return "throws " + e.getCause().getClass().getName();
        }
    }
}

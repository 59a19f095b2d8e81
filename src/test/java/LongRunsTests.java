import java.lang.reflect.InvocationTargetException;
import java.lang.reflect.Method;
import java.util.Arrays;
import java.util.Comparator;

/** Long runs of calls, the same on Setsalike and on Model; all answers, exceptions too, have to be the same. */
public final class LongRunsTests {
    private static final int RUNS = 1500;
    // The digest at the end is the 512th call, behind which nothing is promised.
    private static final int CALLS = 511;
    private static final int[] ODD = {-1, 30, 31, 6, 10, Integer.MAX_VALUE, Integer.MIN_VALUE};
    // These build something up, so that the others find something.
    private static final String OFTEN = "put put put put put walk walk next next next takeAway join copy row bring";

    // The library's own generator is left alone, so that each run is the same everywhere and at any time.
    private static long seed = 20261118;

    public static void main(String[] args) throws Exception {
        Method[] face = Arrays.stream(Model.class.getDeclaredMethods())
                .filter(m -> java.lang.reflect.Modifier.isPublic(m.getModifiers()))
                .sorted(Comparator.comparing(Method::getName)).toArray(Method[]::new);
        Checks.due("methods of the face", 47, face.length);
        for (int run = 0; run < RUNS; run++) {
            oneRun(run, face);
        }
        Checks.finish();
    }

    private static int upTo(int bound) {
        seed = seed * 6364136223846793005L + 1442695040888963407L;
        return (int) Math.floorMod(seed >>> 33, (long) bound);
    }

    private static void oneRun(int run, Method[] face) throws Exception {
        Setsalike x = new Setsalike();
        Model m = new Model();
        int keys = new int[] {4, 9, 16, 30}[run % 4];
        int sets = run % 5 == 0 ? 2 : 6;
        for (int call = 0; call < CALLS; call++) {
            Method ofModel = chosen(face);
            Object[] args = arguments(ofModel, keys, sets);
            Method own = Setsalike.class.getMethod(ofModel.getName(), ofModel.getParameterTypes());
            String name = "run " + run + " call " + call + ": " + own.getName() + Arrays.toString(args);
            Object want = answer(ofModel, m, args);
            Object got = answer(own, x, args);
            Checks.due(name, want, got);
            if (!want.equals(got)) {
                return;
            }
        }
        Checks.due("run " + run + ": digest at the end", m.digest(), x.digest());
    }

    private static Method chosen(Method[] face) {
        String[] often = OFTEN.split(" ");
        int pick = upTo(2 * face.length);
        if (pick < face.length) {
            return face[pick];
        }
        String name = often[pick % often.length];
        return Arrays.stream(face).filter(f -> f.getName().equals(name)).findFirst().orElseThrow();
    }

    /** What an argument is for is seen from its method; now and then it is out of its bounds. */
    private static Object[] arguments(Method method, int keys, int sets) {
        Object[] args = new Object[method.getParameterCount()];
        String name = method.getName();
        boolean ofWalks = isOneOf("hasNext next takeAway rest ofWalk walk", name);
        boolean ofTwo = isOneOf("join less common copy swap isAlike holds isApart", name);
        for (int i = 0; i < args.length; i++) {
            int bound = i == 0 ? 6 : keys;
            if (i == 0 && ofWalks) {
                bound = 2;
            } else if (i == 1 && ofWalks) {
                bound = 4;
            } else if (i == 0 || ofTwo) {
                bound = sets == 2 ? 3 : 6;
            } else if (i == 1 && isOneOf("dropIf pick many withNothing seen meddle", name)) {
                bound = 5;
            } else if (i == 2 && name.equals("put")) {
                bound = 10;
            }
            if (name.equals("row")) {
                bound = i == 0 ? keys : 10;
            } else if (name.equals("family") || name.equals("house")) {
                bound = 5;
            }
            args[i] = upTo(60) == 0 ? ODD[upTo(ODD.length)] : upTo(bound);
        }
        return args;
    }

    private static boolean isOneOf(String names, String name) {
        return Arrays.asList(names.split(" ")).contains(name);
    }

    private static Object answer(Method method, Object object, Object[] args) throws Exception {
        try {
            return method.invoke(object, args);
        } catch (InvocationTargetException e) {
            return "throws " + e.getCause().getClass().getName();
        }
    }
}

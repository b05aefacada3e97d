import java.lang.reflect.InvocationTargetException;
import java.lang.reflect.Method;
import java.lang.reflect.Modifier;
import java.util.ArrayList;
import java.util.Arrays;
import java.util.Comparator;
import java.util.List;
import java.util.Random;

/**
 * All promises, called with any arguments in any state: no call throws, a call that only asks changes
 * nothing, and of what a refused call changes there is only its own count. The face is looked at, too.
 */
public final class WildTest {
    private static final Due D = new Due("WildTest");
    private static final int[] NUMBERS = {0, 0, 0, 1, 1, 1, 2, 2, 3, 3, 4, 5, -1, 6, 7, 8, 9, 10, 12, 13, 20, 21,
        40, 41, 48, 59, 96, 98, 99, 100, 101, 112, 116, 119, 204, 255, 256, 999, 1000, 1214, 2424, 2500, 9999,
        10000, -2, -9, Integer.MIN_VALUE, Integer.MAX_VALUE};
    private static final String CHANGES = " feed house bed person way skill cover turn back row judge clear image restore ";

    public static void main(String[] args) throws ReflectiveOperationException {
        Method[] methods = BothCorners.class.getDeclaredMethods();
        Arrays.sort(methods, Comparator.comparing(Method::toString));
        int publics = 0;
        for (Method method : methods) {
            int modifiers = method.getModifiers();
            D.due(method + " is public or private", Modifier.isPublic(modifiers) || Modifier.isPrivate(modifiers) ? 1 : 0, 1);
            publics += Modifier.isPublic(modifiers) ? 1 : 0;
        }
        D.due("calls of the face", publics, 58);
        D.due("constructors", BothCorners.class.getConstructors().length, 1);
        D.due("public fields", BothCorners.class.getFields().length, 0);
        D.due("final", Modifier.isFinal(BothCorners.class.getModifiers()) ? 1 : 0, 1);
        List<Method> face = new ArrayList<>();
        for (Method method : methods) {
            if (Modifier.isPublic(method.getModifiers())) {
                face.add(method);
            }
        }
        for (int seed = 0; seed < 8000; seed++) {
            run(face, new Random(seed));
        }
        D.end();
    }

    /** Any calls, and of the last of them all that it changes: no object is asked more than 512 times. */
    private static void run(List<Method> face, Random random) throws ReflectiveOperationException {
        BothCorners x = new BothCorners();
        for (int bed = random.nextInt(7); bed > 0; bed--) {
            x.bed(told(random), told(random));
        }
        for (int person = random.nextInt(5); person > 0; person--) {
            x.person(1 + random.nextInt(12), random.nextInt(10));
        }
        for (int way = random.nextInt(7); way > 0; way--) {
            x.way(random.nextInt(6), random.nextInt(10));
        }
        int[] refused = new int[7];
        for (int call = random.nextInt(300); call > 0; call--) {
            Method method = face.get(random.nextInt(face.size()));
            refused[refusalOf(method.getName(), answer(x, method, anyArguments(method, random)))]++;
        }
        int[] counts = countsOf(x);
        for (int kind = 1; kind <= 6; kind++) {
            D.due("refusals -" + kind, counts[kind], refused[kind]);
        }
        Method method = face.get(random.nextInt(face.size()));
        ask(x, method, anyArguments(method, random), counts);
    }

    private static int told(Random random) {
        return 100 * (1 + random.nextInt(24)) + 1 + random.nextInt(24);
    }

    private static Object[] anyArguments(Method method, Random random) {
        Object[] arguments = new Object[method.getParameterCount()];
        for (int i = 0; i < arguments.length; i++) {
            arguments[i] = NUMBERS[random.nextInt(NUMBERS.length)];
        }
        return arguments;
    }

    private static long answer(BothCorners x, Method method, Object[] arguments) throws ReflectiveOperationException {
        try {
            return ((Number) method.invoke(x, arguments)).longValue();
        } catch (InvocationTargetException thrown) {
            D.due(method.getName() + Arrays.toString(arguments) + " threw " + thrown.getCause(), 1, 0);
            return 0;
        }
    }

    private static void ask(BothCorners x, Method method, Object[] arguments, int[] counts)
            throws ReflectiveOperationException {
        String call = method.getName() + Arrays.toString(arguments);
        String before = stateOf(x);
        long answer = answer(x, method, arguments);
        int[] after = countsOf(x);
        int more = 0;
        for (int kind = 1; kind <= 6; kind++) {
            more += after[kind] - counts[kind];
        }
        int refusal = refusalOf(method.getName(), answer);
        D.due(call + " refusals more", more, refusal == 0 ? 0 : 1);
        if (refusal != 0) {
            D.due(call + " refusals of its kind more", after[refusal] - counts[refusal], 1);
        }
        if (refusal != 0 || !CHANGES.contains(" " + method.getName() + " ")) {
            D.due(call + " changes nothing: " + before, stateOf(x).equals(before) ? 0 : 1, 0);
        }
    }

    /** 1 to 6 where the answer is a REFUSAL, which no other answer of that call can be. */
    private static int refusalOf(String name, long answer) {
        if (name.equals("onBed") || name.equals("crosswise")) {
            return answer > 1000000000 ? (int) (answer - 1000000000) : 0;
        }
        if (name.equals("cat")) {
            return answer > 4000000000000000000L ? (int) (answer - 4000000000000000000L) : 0;
        }
        return answer < 0 && answer >= -6 ? (int) -answer : 0;
    }

    private static int[] countsOf(BothCorners x) {
        int[] counts = new int[7];
        for (int kind = 1; kind <= 6; kind++) {
            counts[kind] = x.count(10 + kind);
        }
        return counts;
    }

    private static String stateOf(BothCorners x) {
        StringBuilder state = new StringBuilder();
        for (int what = 0; what <= 7; what++) {
            state.append(x.count(what)).append(' ');
        }
        for (int bed = 0; bed < x.count(0); bed++) {
            for (int what = 0; what < 4; what++) {
                state.append(x.bedOf(bed, what)).append(' ');
            }
        }
        for (int person = 0; person < x.count(1); person++) {
            state.append(x.personOf(person, 0)).append(' ').append(x.personOf(person, 1)).append(' ');
        }
        for (int way = 0; way < x.count(2); way++) {
            state.append(x.wayOf(way, 0)).append(' ').append(x.wayOf(way, 1)).append(' ');
        }
        for (int corner = 0; corner < 4; corner++) {
            state.append(x.corner(corner, 0));
        }
        return state.toString();
    }
}

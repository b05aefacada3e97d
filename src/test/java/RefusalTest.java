import java.lang.reflect.InvocationTargetException;
import java.lang.reflect.Method;
import java.util.HashMap;
import java.util.Map;
import java.util.TreeSet;

/**
 * The REFUSALS of every promise, in the order in which it tells them: each argument is the least and
 * the greatest that it may be, the number just below and just above, and the ends of int, all of them
 * with one another, in states where something lacks, where there is some and where all is full. What
 * is refused is counted by its number and changes nothing else; what is not refused is not counted.
 */
public final class RefusalTest {
    private static final Due D = new Due("RefusalTest");
    /** So that no object is asked more than 512 times. */
    private static final int REFUSED_BY_ONE = 40;

    /** Each call with its arguments (a "what3" is 0 .. 3, a number least-greatest), then its REFUSALS. */
    private static final String[] PROMISES = {
        "feed 0-255: -4 -6",
        "house:",
        "bedOf bed what3: -1 -2",
        "personOf person what1: -1 -2",
        "wayOf way what1: -1 -2",
        "bed size size: -4 -6",
        "person 1-12 0-9: -4 -6",
        "way what5 0-9: -2 -4 -6",
        "skill person 0-9: -1 -4 -6",
        "cover bed size: -1 -4 -6",
        "turn what3: -2",
        "back: -3",
        "takes bed way person what3: -1 -2",
        "bestWay bed person: -1",
        "anew bed person way otherway 0-40 what1: -1 -4 -6 -2",
        "onBed bed way person: -1",
        "together bed way person otherperson: -1",
        "waits bed way person otherperson: -1",
        "crosswise bed what1: -1 -2",
        "covers way i: -1 -4",
        "who i: -4 -3",
        "learned way person: -1",
        "order way person i: -1 -4",
        "tapes bed way person 0-9999: -1 -4 -6",
        "lumpy: -3",
        "forged: -3",
        "corner cornerofany what2: -1 -2",
        "right i: -4",
        "lands corner: -1 -3",
        "orderOf: -3",
        "mixed:",
        "waysToLie 0-8: -4 -6",
        "cat way person 2-20 what1: -1 -4 -6 -2",
        "look way person 2-20: -1 -4 -6",
        "needs bed way person 0-999 what1: -1 -4 -6 -2",
        "worst person: -1",
        "swap way: -1",
        "rather way otherway person what1: -1 -2",
        "teacher what1: -2 -3",
        "line bed way person: -1",
        "half way person: -1",
        "split person otherperson what1: -1 -2 -3",
        "inTime person 0-999: -1 -4 -6 -3",
        "reach: -3",
        "commute what3 what3: -2",
        "teach: -3",
        "left bed way person 0-40: -1 -4 -6",
        "enough person: -1",
        "flow way person otherperson i: -1 -4",
        "twins what1: -2",
        "range person: -1 -3",
        "row 0-99: -4 -6",
        "judge way person: -1",
        "clear:",
        "lots 1-20 any what1: -4 -6 -2",
        "image:",
        "restore: -3",
        "count any:",
    };
    private static final String CHANGES = " feed house bed person way skill cover turn back row judge clear image restore ";

    private final State state;
    private final Method call;
    private final String name;
    private final String[] kinds;
    private final String[] refusals;
    private BothCorners refusing;
    private int[] refused;
    private int refusedByOne;

    private RefusalTest(State state, Method call, String promise) {
        this.state = state;
        this.call = call;
        String[] parts = promise.split(":", -1);
        String[] words = parts[0].split(" ");
        name = words[0];
        kinds = java.util.Arrays.copyOfRange(words, 1, words.length);
        refusals = parts[1].isBlank() ? new String[0] : parts[1].strip().split(" ");
        begin();
    }

    public static void main(String[] args) throws ReflectiveOperationException {
        Map<String, Method> calls = new HashMap<>();
        for (Method method : BothCorners.class.getDeclaredMethods()) {
            calls.put(method.getName(), method);
        }
        int[] none = {};
        State[] states = {
            new State("new", 0, 0, 0, 0, none, 0, false),
            new State("no beds", 0, 2, 2, 0, new int[] {0}, 1, true),
            new State("no people", 2, 0, 2, 4, new int[] {3, 3}, 0, true),
            new State("no ways", 2, 2, 0, 2, new int[] {3, 1, 0, 2}, 7, false),
            new State("one of each", 1, 1, 1, 95, new int[] {1, 2}, 1, true),
            new State("some", 3, 2, 3, 3, new int[] {0, 4, 99}, 3, false),
            new State("a corner twice", 4, 3, 2, 3, new int[] {0, 1, 2, 2}, 3, true),
            new State("no corner", 3, 3, 2, 3, new int[] {0, 1, 2, 4}, 3, true),
            new State("all but one", 5, 3, 5, 94, new int[] {0, 1, 2, 3, 3, 2, 1, 0, 2, 2, 2}, 7, true),
            new State("full", 6, 4, 6, 96, new int[] {0, 1, 2, 3, 3, 2, 1, 0, 2, 2, 2, 3}, 8, true),
        };
        D.due("promises with calls", PROMISES.length, 58);
        for (State state : states) {
            for (String promise : PROMISES) {
                new RefusalTest(state, calls.get(promise.split("[ :]")[0]), promise).askAll();
            }
        }
        D.end();
    }

    private void begin() {
        refusing = state.build();
        refused = new int[7];
        refusedByOne = 0;
    }

    private void askAll() throws ReflectiveOperationException {
        int[][] values = new int[kinds.length][];
        int all = 1;
        for (int i = 0; i < kinds.length; i++) {
            values[i] = values(kinds[i]);
            all *= values[i].length;
        }
        for (int code = 0; code < all; code++) {
            Integer[] arguments = new Integer[kinds.length];
            int rest = code;
            for (int i = 0; i < kinds.length; i++) {
                arguments[i] = values[i][rest % values[i].length];
                rest /= values[i].length;
            }
            ask(arguments);
        }
        compareRefusing();
    }

    private void ask(Integer[] arguments) throws ReflectiveOperationException {
        int due = refusalDue(arguments);
        String told = state.name + ": " + name + java.util.Arrays.toString(arguments);
        if (due == 0) {
            askFresh(arguments, told);
            return;
        }
        D.due(told, answer(refusing, arguments), asTold(due));
        refused[-due]++;
        D.due(told + " counted", refusing.count(10 - due), refused[-due]);
        refusedByOne++;
        if (refusedByOne == REFUSED_BY_ONE) {
            compareRefusing();
            begin();
        }
    }

    /** What is not refused leaves no REFUSAL; what only asks leaves all as it was. */
    private void askFresh(Integer[] arguments, String told) throws ReflectiveOperationException {
        BothCorners x = state.build();
        long answer = answer(x, arguments);
        boolean long18 = name.equals("cat");
        long refusal = name.equals("onBed") || name.equals("crosswise") ? answer - 1000000000
                : long18 ? answer - 4000000000000000000L : -answer;
        D.due(told + " is refused", refusal >= 1 && refusal <= 6 ? 1 : 0, 0);
        D.due(told + " counts no refusal", sum(countsOf(x)), 0);
        if (!CHANGES.contains(" " + name + " ")) {
            D.due(told + " leaves all as it was", allOf(x).equals(state.all) ? 0 : 1, 0);
        }
    }

    private void compareRefusing() {
        for (int kind = 1; kind <= 6; kind++) {
            D.due(state.name + ": refusals -" + kind + " of " + name, refusing.count(10 + kind), refused[kind]);
        }
        D.due(state.name + ": refused " + name + " leaves all as it was", allOf(refusing).equals(state.all) ? 0 : 1, 0);
    }

    private long answer(BothCorners x, Integer[] arguments) throws ReflectiveOperationException {
        try {
            return ((Number) call.invoke(x, (Object[]) arguments)).longValue();
        } catch (InvocationTargetException thrown) {
            D.due(name + " threw " + thrown.getCause(), 1, 0);
            return Long.MIN_VALUE;
        }
    }

    private long asTold(int refusal) {
        if (name.equals("onBed") || name.equals("crosswise")) {
            return 1000000000 - refusal;
        }
        return name.equals("cat") ? 4000000000000000000L - refusal : refusal;
    }

    // ---- What the document says of the arguments

    private static int[] edges(int least, int most) {
        TreeSet<Integer> edges = new TreeSet<>();
        int[] all = {Integer.MIN_VALUE, least - 1, least, most, most + 1, Integer.MAX_VALUE};
        for (int edge : all) {
            edges.add(edge);
        }
        return edges.stream().mapToInt(Integer::intValue).toArray();
    }

    private int[] values(String kind) {
        switch (kind) {
            case "size":
                return new int[] {Integer.MIN_VALUE, -2424, -101, -1, 0, 1, 24, 25, 99, 100, 101, 124, 125,
                    2400, 2401, 2424, 2425, 2500, 2501, 2525, 10101, Integer.MAX_VALUE};
            case "i":
                return new int[] {Integer.MIN_VALUE, -2, -1, 0, 5, 6, Integer.MAX_VALUE};
            case "any":
                return new int[] {Integer.MIN_VALUE, -1, 0, 1, 10, 11, 16, 17, Integer.MAX_VALUE};
            default:
                return edges(least(kind), most(kind));
        }
    }

    private static int least(String kind) {
        return kind.matches("\\d+-\\d+") ? Integer.parseInt(kind.split("-")[0]) : 0;
    }

    private int most(String kind) {
        if (kind.startsWith("what")) {
            return kind.charAt(4) - '0';
        }
        switch (kind) {
            case "bed":
                return state.beds - 1;
            case "person":
            case "otherperson":
                return state.people - 1;
            case "way":
            case "otherway":
                return state.ways - 1;
            case "corner":
            case "cornerofany":
                return 3;
            default:
                return Integer.parseInt(kind.split("-")[1]);
        }
    }

    private int refusalDue(Integer[] arguments) {
        for (String told : refusals) {
            int refusal = Integer.parseInt(told);
            boolean fits = refusal == -3 && state.lacks(name) || refusal == -6 && state.isFull(name);
            for (int i = 0; i < kinds.length; i++) {
                fits = fits || fits(refusal, kinds[i], arguments, i);
            }
            if (fits) {
                return refusal;
            }
        }
        return 0;
    }

    private boolean fits(int refusal, String kind, Integer[] arguments, int i) {
        int v = arguments[i];
        if (kind.equals("any")) {
            return false;
        }
        if (kind.equals("i")) {
            return refusal == -4 && v < -1;
        }
        if (kind.equals("size")) {
            int length = v / 100;
            int breadth = v % 100;
            return refusal == -4 && (length < 1 || breadth < 1) || refusal == -6 && (length > 24 || breadth > 24);
        }
        boolean below = v < least(kind);
        boolean above = v > most(kind);
        if (kind.startsWith("what")) {
            return refusal == -2 && (below || above);
        }
        if (kind.matches("\\d+-\\d+")) {
            return refusal == -4 && below || refusal == -6 && above;
        }
        if (kind.equals("cornerofany") && arguments[i + 1] == 2) {
            return false;
        }
        boolean twice = kind.startsWith("other") && arguments[i - 1] == v;
        return refusal == -1 && (below || above || twice);
    }

    // ---- What there is, told by the face alone

    private static int[] countsOf(BothCorners x) {
        int[] counts = new int[6];
        for (int kind = 1; kind <= 6; kind++) {
            counts[kind - 1] = x.count(10 + kind);
        }
        return counts;
    }

    private static int sum(int[] numbers) {
        int sum = 0;
        for (int number : numbers) {
            sum += number;
        }
        return sum;
    }

    /** All of it, also what can be TAKEN BACK, the letters and THE IMAGE: they are used up by it. */
    private static String allOf(BothCorners x) {
        StringBuilder all = new StringBuilder();
        for (int bed = 0; bed < x.count(0); bed++) {
            all.append(x.bedOf(bed, 0)).append(' ').append(x.bedOf(bed, 1)).append(' ');
        }
        for (int person = 0; person < x.count(1); person++) {
            all.append(x.personOf(person, 0)).append(' ').append(x.personOf(person, 1)).append(' ');
        }
        for (int way = 0; way < x.count(2); way++) {
            all.append(x.wayOf(way, 0)).append(' ').append(x.wayOf(way, 1)).append(' ');
        }
        all.append(x.lumpy()).append(' ').append(x.forged()).append(' ').append(x.orderOf()).append(' ');
        all.append(x.reach()).append(' ').append(x.lands(0)).append(x.lands(1)).append(x.lands(2)).append(' ');
        look(x, all);
        for (int more = x.count(7); more > 0; more--) {
            all.append(x.back()).append(' ');
            look(x, all);
        }
        all.append(x.house()).append(' ');
        look(x, all);
        all.append(x.restore()).append(' ');
        look(x, all);
        return all.toString();
    }

    private static void look(BothCorners x, StringBuilder all) {
        for (int what = 0; what <= 7; what++) {
            all.append(x.count(what)).append(' ');
        }
        int last = x.count(0) - 1;
        all.append(x.bedOf(0, 2)).append(' ').append(x.bedOf(0, 3)).append(' ');
        all.append(x.bedOf(last, 2)).append(' ').append(x.bedOf(last, 3)).append(' ');
        all.append(x.personOf(0, 1)).append(' ').append(x.personOf(x.count(1) - 1, 1)).append(' ');
        for (int place = 0; place < 3; place++) {
            all.append(x.corner(place, 1));
        }
        all.append("; ");
    }

    private static final class State {
        private final String name;
        private final int beds;
        private final int people;
        private final int ways;
        private final int letters;
        private final int[] row;
        private final int changes;
        private final boolean image;
        private final String all;

        State(String name, int beds, int people, int ways, int letters, int[] row, int changes, boolean image) {
            this.name = name;
            this.beds = beds;
            this.people = people;
            this.ways = ways;
            this.letters = letters;
            this.row = row;
            this.changes = changes;
            this.image = image;
            this.all = allOf(build());
        }

        BothCorners build() {
            BothCorners x = new BothCorners();
            for (int bed = 0; bed < beds; bed++) {
                x.bed(2010 - 99 * bed, 1214 + 202 * bed);
            }
            for (int person = 0; person < people; person++) {
                x.person(1 + 3 * person, 9 - 2 * person);
            }
            for (int way = 0; way < ways; way++) {
                x.way(way, 9 - way);
            }
            if (image) {
                x.turn(2);
                x.image();
                x.restore();
            }
            for (int change = 0; change < changes; change++) {
                change(x, change);
            }
            for (int number : row) {
                x.row(number);
            }
            for (int letter = 0; letter < letters; letter++) {
                x.feed("t2;".charAt(letter % 3));
            }
            return x;
        }

        private void change(BothCorners x, int change) {
            if (change % 3 == 0 && beds > 0) {
                x.cover(change % 2 * (beds - 1), 101 * (change + 1));
            } else if (change % 3 == 1 && people > 0) {
                x.skill(change % 2 * (people - 1), change);
            } else {
                x.turn(change % 4);
            }
        }

        boolean lacks(String call) {
            switch (call) {
                case "back":
                    return changes == 0;
                case "restore":
                    return !image;
                case "who":
                case "teach":
                    return people == 0 || ways == 0;
                case "lumpy":
                case "forged":
                    return row.length > beds;
                case "lands":
                case "orderOf":
                    return numbersBelow4() < row.length;
                case "reach":
                    return row.length != 4 || unlikeCorners() != 4;
                default:
                    return ways == 0;
            }
        }

        private int numbersBelow4() {
            int count = 0;
            for (int number : row) {
                count += number < 4 ? 1 : 0;
            }
            return count;
        }

        private int unlikeCorners() {
            TreeSet<Integer> corners = new TreeSet<>();
            for (int number : row) {
                if (number < 4) {
                    corners.add(number);
                }
            }
            return corners.size();
        }

        boolean isFull(String call) {
            switch (call) {
                case "feed":
                    return letters == 96;
                case "bed":
                    return beds == 6;
                case "person":
                    return people == 4;
                case "way":
                    return ways == 6;
                case "row":
                    return row.length == 12;
                default:
                    return false;
            }
        }
    }
}

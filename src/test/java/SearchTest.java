import java.util.ArrayList;
import java.util.List;
import java.util.Random;

/**
 * What is looked for among many ways (promises 15, 16, 21 to 25, 36 to 44, 47, 49, 50, 52), in random
 * houses, against trying all of them plainly by what takes() answers.
 */
public final class SearchTest {
    private static final Due D = new Due("SearchTest");
    private static final int HOUSES = 60;
    private static final int FULL_HOUSES = 6;
    private static final int MOST_CALLS = 490;

    private final Random random;
    private final int beds;
    private final int people;
    private final int ways;
    private final int[][] toldBeds;
    private final int[][] toldPeople;
    private final int[][] toldWays;
    private BothCorners house;
    private int calls;

    private SearchTest(int seed) {
        random = new Random(seed);
        boolean full = seed < FULL_HOUSES;
        beds = full ? 6 : random.nextInt(7);
        people = full ? 4 : 2 + random.nextInt(3);
        ways = full ? 6 : 2 + random.nextInt(5);
        int most = seed % 3 == 0 ? 6 : 24;
        toldBeds = new int[beds][];
        for (int bed = 0; bed < beds; bed++) {
            toldBeds[bed] = new int[] {told(most), told(most)};
        }
        toldPeople = new int[people][];
        for (int person = 0; person < people; person++) {
            toldPeople[person] = new int[] {1 + random.nextInt(12), random.nextInt(10)};
        }
        toldWays = new int[ways][];
        for (int way = 0; way < ways; way++) {
            toldWays[way] = new int[] {random.nextInt(6), random.nextInt(10)};
        }
        house = built();
    }

    private BothCorners built() {
        BothCorners y = new BothCorners();
        for (int[] bed : toldBeds) {
            y.bed(bed[0], bed[1]);
        }
        for (int[] person : toldPeople) {
            y.person(person[0], person[1]);
        }
        for (int[] way : toldWays) {
            y.way(way[0], way[1]);
        }
        return y;
    }

    /** The house: told anew in time, for behind 512 calls an object may answer anything. */
    private BothCorners x() {
        if (calls == MOST_CALLS) {
            house = built();
            calls = 0;
        }
        calls++;
        return house;
    }

    private int told(int most) {
        return 100 * (1 + random.nextInt(most)) + 1 + random.nextInt(most);
    }

    public static void main(String[] args) {
        for (int seed = 0; seed < HOUSES; seed++) {
            SearchTest test = new SearchTest(seed);
            test.ofOneBed();
            test.ofWays();
            test.ofOrders();
            test.ofPeople();
            test.ofBits();
        }
        D.end();
    }

    private int time(int bed, int way, int person) {
        return x().takes(bed, way, person, 3);
    }

    private int best(int bed, int person) {
        int best = 0;
        for (int way = 1; way < ways; way++) {
            if (time(bed, way, person) < time(bed, best, person)) {
                best = way;
            }
        }
        return best;
    }

    private int bestTime(int bed, int person) {
        return time(bed, best(bed, person), person);
    }

    /** TIME with another SKILL, by an object of its own. */
    private int timeWith(int bed, int way, int arms, int skill) {
        return like(bed, bed, way, arms, skill).takes(0, 0, 0, 3);
    }

    private BothCorners like(int quilt, int cover, int way, int arms, int skill) {
        BothCorners y = new BothCorners();
        y.bed(100 * x().bedOf(quilt, 0) + x().bedOf(quilt, 1), 100 * x().bedOf(cover, 2) + x().bedOf(cover, 3));
        y.way(x().wayOf(way, 0), x().wayOf(way, 1));
        y.person(arms, skill);
        return y;
    }

    private void ofOneBed() {
        for (int bed = 0; bed < beds; bed++) {
            int person = random.nextInt(people);
            int way = random.nextInt(ways);
            int arms = x().personOf(person, 0);
            int skill = x().personOf(person, 1);
            D.due("bestWay", x().bestWay(bed, person), best(bed, person));
            int t = random.nextInt(120);
            D.due("needs arms", x().needs(bed, way, person, t, 0), needed(bed, way, arms, skill, t, true));
            D.due("needs skill", x().needs(bed, way, person, t, 1), needed(bed, way, arms, skill, t, false));
            D.due("line", x().line(bed, way, person), line(bed, way, person));
            int sewing = random.nextInt(3000);
            D.due("tapes", x().tapes(bed, way, person, sewing), tapes(bed, way, arms, skill, sewing));
            for (int other = 0; other < ways; other++) {
                if (other != way) {
                    int shakes = x().takes(bed, way, person, 2);
                    int least = 0;
                    while (3 * (shakes - least) > time(bed, other, person)) {
                        least++;
                    }
                    D.due("anew least", x().anew(bed, person, way, other, 0, 1), least);
                    D.due("anew", x().anew(bed, person, way, other, Math.min(40, least), 0), least > 40 ? 1 : 0);
                }
            }
        }
    }

    private int needed(int bed, int way, int arms, int skill, int t, boolean ofArms) {
        for (int n = ofArms ? 1 : 0; n <= (ofArms ? 12 : 9); n++) {
            if (timeWith(bed, way, ofArms ? n : arms, ofArms ? skill : n) <= t) {
                return n;
            }
        }
        return -9;
    }

    private int line(int bed, int way, int person) {
        for (int figure = 0; figure < 10; figure++) {
            BothCorners y = new BothCorners();
            y.bed(100 * x().bedOf(bed, 0) + x().bedOf(bed, 1), 100 * x().bedOf(bed, 2) + x().bedOf(bed, 3));
            y.person(x().personOf(person, 0), x().personOf(person, 1));
            for (int w = 0; w < ways; w++) {
                y.way(x().wayOf(w, 0), w == way ? figure : x().wayOf(w, 1));
            }
            if (y.bestWay(0, 0) != way) {
                return figure;
            }
        }
        return -9;
    }

    private int tapes(int bed, int way, int arms, int skill, int sewing) {
        BothCorners y = like(bed, bed, way, arms, skill);
        int taped = y.takes(0, y.way(5, 0), 0, 3);
        int told = y.takes(0, 0, 0, 3);
        for (int mornings = 1; mornings < 1000; mornings++) {
            if (sewing + mornings * taped < mornings * told) {
                return mornings;
            }
        }
        return -9;
    }

    private void ofWays() {
        int way = random.nextInt(ways);
        int[][] folds = new int[beds][beds];
        for (int quilt = 0; quilt < beds; quilt++) {
            for (int cover = 0; cover < beds; cover++) {
                folds[quilt][cover] = like(quilt, cover, way, 1, 0).takes(0, 0, 0, 1);
            }
        }
        int least = Integer.MAX_VALUE;
        int[] first = {};
        for (int[] order : orders()) {
            int sum = 0;
            for (int i = 0; i < beds; i++) {
                sum += folds[i][order[i]];
            }
            if (sum < least) {
                least = sum;
                first = order;
            }
        }
        D.due("covers", x().covers(way, -1), least);
        for (int i = 0; i < beds; i++) {
            D.due("covers, the i-th", x().covers(way, i), first[i]);
        }
        int gain = 0;
        int swap = -9;
        for (int code = 0; code < 60; code++) {
            int one = code / 10;
            int other = code % 10;
            if (one < other && other < beds) {
                int less = folds[one][one] + folds[other][other] - folds[one][other] - folds[other][one];
                if (less > gain) {
                    gain = less;
                    swap = code;
                }
            }
        }
        D.due("swap", x().swap(way), swap);
    }

    /** All orders of the BEDS, the first ones first. */
    private List<int[]> orders() {
        List<int[]> all = new ArrayList<>();
        int codes = 1;
        for (int i = 0; i < beds; i++) {
            codes *= beds;
        }
        for (int code = 0; code < codes; code++) {
            int[] order = new int[beds];
            int rest = code;
            int seen = 0;
            for (int i = beds - 1; i >= 0; i--) {
                order[i] = rest % beds;
                rest /= beds;
                seen |= 1 << order[i];
            }
            if (seen == (1 << beds) - 1) {
                all.add(order);
            }
        }
        return all;
    }

    private void ofOrders() {
        int way = random.nextInt(ways);
        int person = random.nextInt(people);
        int arms = x().personOf(person, 0);
        int skill = x().personOf(person, 1);
        int other = (person + 1) % people;
        int[][] times = new int[beds][beds];
        for (int done = 0; done < beds; done++) {
            for (int bed = 0; bed < beds; bed++) {
                times[done][bed] = timeWith(bed, way, arms, Math.min(9, skill + done));
            }
        }
        int byNumbers = 0;
        for (int i = 0; i < beds; i++) {
            byNumbers += times[i][i];
        }
        D.due("learned", x().learned(way, person), byNumbers);
        int least = Integer.MAX_VALUE;
        int soonest = Integer.MAX_VALUE;
        int[] learned = {};
        int[] flow = {};
        for (int[] order : orders()) {
            int sum = 0;
            int in = 0;
            int done = 0;
            for (int i = 0; i < beds; i++) {
                sum += times[i][order[i]];
                in += x().takes(order[i], way, person, 0);
                done = Math.max(in, done) + 3 * x().takes(order[i], way, other, 2);
            }
            if (sum < least) {
                least = sum;
                learned = order;
            }
            if (done < soonest) {
                soonest = done;
                flow = order;
            }
        }
        D.due("order", x().order(way, person, -1), least);
        D.due("flow", x().flow(way, person, other, -1), soonest);
        for (int i = 0; i < beds; i++) {
            D.due("order, the i-th", x().order(way, person, i), learned[i]);
            D.due("flow, the i-th", x().flow(way, person, other, i), flow[i]);
        }
    }

    /** Who does which bed, the first way first; answers TIME ahead of it. */
    private int[] shared(BothCorners y) {
        int codes = 1;
        for (int i = 0; i < beds; i++) {
            codes *= people;
        }
        int[] best = new int[beds + 1];
        best[0] = Integer.MAX_VALUE;
        int[][] times = new int[beds][people];
        for (int bed = 0; bed < beds; bed++) {
            for (int person = 0; person < people; person++) {
                times[bed][person] = y.takes(bed, y.bestWay(bed, person), person, 3);
            }
        }
        for (int code = 0; code < codes; code++) {
            int[] does = new int[beds + 1];
            int[] loads = new int[people];
            int rest = code;
            for (int bed = beds - 1; bed >= 0; bed--) {
                does[bed + 1] = rest % people;
                rest /= people;
                loads[does[bed + 1]] += times[bed][does[bed + 1]];
            }
            for (int load : loads) {
                does[0] = Math.max(does[0], load);
            }
            if (does[0] < best[0]) {
                best = does;
            }
        }
        return best;
    }

    private void ofPeople() {
        int[] shared = shared(built());
        for (int i = -1; i < beds; i++) {
            D.due("who " + i, x().who(i), shared[i + 1]);
        }
        int teach = -9;
        int least = shared[0];
        int teacher = -9;
        int teacherTime = -9;
        for (int person = 0; person < people; person++) {
            BothCorners y = built();
            y.skill(person, Math.min(9, y.personOf(person, 1) + 1));
            int time = shared(y)[0];
            if (time < least) {
                least = time;
                teach = person;
            }
            int sum = 0;
            for (int bed = 0; bed < beds; bed++) {
                sum += bestTime(bed, person);
            }
            if (teacher < 0 || sum < teacherTime) {
                teacher = person;
                teacherTime = sum;
            }
        }
        D.due("teach", x().teach(), teach);
        D.due("teacher", x().teacher(0), teacher);
        D.due("teacher, that", x().teacher(1), teacherTime);
        for (int person = 0; person < people; person++) {
            int worst = -9;
            int most = 0;
            int fewest = Integer.MAX_VALUE;
            for (int bed = 0; bed < beds; bed++) {
                int time = bestTime(bed, person);
                worst = worst < 0 || time > most ? bed : worst;
                most = Math.max(most, time);
                fewest = Math.min(fewest, time);
            }
            D.due("worst", x().worst(person), worst);
            D.due("range", x().range(person), beds == 0 ? 0 : most - fewest);
        }
    }

    private void ofBits() {
        int one = random.nextInt(people);
        int other = (one + 1) % people;
        int t = random.nextInt(150);
        int soonest = Integer.MAX_VALUE;
        int split = 0;
        int most = 0;
        for (int bits = 0; bits < 1 << beds; bits++) {
            int mine = 0;
            int his = 0;
            for (int bed = 0; bed < beds; bed++) {
                if ((bits >> bed & 1) == 1) {
                    mine += bestTime(bed, one);
                } else {
                    his += bestTime(bed, other);
                }
            }
            if (Math.max(mine, his) < soonest) {
                soonest = Math.max(mine, his);
                split = bits;
            }
            if (mine <= t) {
                most = Math.max(most, Integer.bitCount(bits));
            }
        }
        D.due("split", x().split(one, other, 0), soonest);
        D.due("split, of the first", x().split(one, other, 1), split);
        D.due("in time", x().inTime(one, t), most);
        D.due("enough", x().enough(one), enough(one));
        int way = random.nextInt(ways);
        int than = (way + 1) % ways;
        int quicker = 0;
        int asQuick = 0;
        int half = 0;
        for (int bed = 0; bed < beds; bed++) {
            quicker += time(bed, way, one) < time(bed, than, one) ? 1 : 0;
            asQuick += time(bed, way, one) == time(bed, than, one) ? 1 : 0;
            half += 3 * x().takes(bed, way, one, 2) > x().takes(bed, way, one, 0) ? 1 : 0;
        }
        D.due("rather", x().rather(way, than, one, 0), quicker);
        D.due("rather, as quick", x().rather(way, than, one, 1), asQuick);
        D.due("half", x().half(way, one), half);
    }

    private int enough(int person) {
        for (int count = 0; count <= ways; count++) {
            for (int bits = 0; bits < 1 << ways; bits++) {
                boolean enough = Integer.bitCount(bits) == count;
                for (int bed = 0; bed < beds && enough; bed++) {
                    boolean one = false;
                    for (int way = 0; way < ways; way++) {
                        one |= (bits >> way & 1) == 1 && time(bed, way, person) == bestTime(bed, person);
                    }
                    enough = one;
                }
                if (enough) {
                    return bits;
                }
            }
        }
        return -9;
    }
}

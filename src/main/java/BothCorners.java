/**
 * Beds with a quilt and a cover that are nearly alike, people with arms, and ways to get the one
 * into the other. What each call answers is told in ../shared/DOC.md; words in capitals are its
 * terms. A bed's quilt and cover are held as they are told: 100 LENGTH and BREADTH.
 */
public final class BothCorners {
    private static final int NOBODY = -1;
    private static final int OTHER = -2;
    private static final int STATE = -3;
    private static final int BELOW = -4;
    private static final int ROOM = -6;
    private static final int NONE = -9;
    private static final int ALL = -1;

    private static final int MOST_BEDS = 6;
    private static final int MOST_PEOPLE = 4;
    private static final int MOST_WAYS = 6;
    private static final int MOST_SIZE = 24;
    private static final int MOST_ARMS = 12;
    private static final int MOST_SKILL = 9;
    private static final int MOST_FIGURE = 9;
    private static final int MOST_LETTERS = 96;
    private static final int MOST_LETTER = 255;
    private static final int MOST_CHANGES = 8;
    private static final int MOST_IN_ROW = 12;
    private static final int MOST_NUMBER = 99;
    private static final int MOST_SHAKES = 40;
    private static final int MOST_SECONDS = 999;
    private static final int MOST_SEWING = 9999;
    private static final int MOST_MORNINGS = 999;
    private static final int MOST_DRAWN_MORNINGS = 20;
    private static final int MOST_ODDS = 20;
    private static final int MOST_TURNS = 8;
    private static final int MOST_ROUNDS = 24;

    private static final int KINDS = 6;
    private static final int TAPED_KIND = 5;
    private static final int TURNS = 4;
    private static final int CORNERS = 4;
    private static final int SHAKE = 3;
    private static final int CLIMBING = 8;
    private static final int STANDING_ARMS = 3;
    private static final int LOOKING = 5;
    private static final int UNTOLD = 99;
    private static final int NO_TIME = 1000000000;
    private static final int REFUSAL_KINDS = 6;

    private static final int INT_REFUSALS = 1000000000;
    private static final long LONG_REFUSALS = 4000000000000000000L;

    private final House now;
    private final House image;
    private final House trial;
    private final Letters letters;
    private final Changes changes;
    private final Lies lies;
    private final Search search;
    private final int[] row;
    private final int[] refused;
    private int inRow;
    private boolean imageTaken;

    public BothCorners() {
        Way[] kinds = {new Way(), new Crept(), new Turned(), new Rolled(), new Crossed(), new Taped()};
        now = new House(kinds);
        image = new House(kinds);
        trial = new House(kinds);
        letters = new Letters();
        changes = new Changes();
        lies = new Lies();
        search = new Search();
        row = new int[MOST_IN_ROW];
        refused = new int[REFUSAL_KINDS + 1];
        inRow = 0;
        imageTaken = false;
    }

    // ---- Letters, and what there is

    public int feed(int letter) {
        if (letter < 0) {
            return refuse(BELOW);
        }
        if (letter > MOST_LETTER || letters.count >= MOST_LETTERS) {
            return refuse(ROOM);
        }
        return letters.add(letter);
    }

    public int house() {
        int answer = houseTold();
        letters.count = 0;
        return answer;
    }

    public int bedOf(int bed, int what) {
        if (noBed(bed)) {
            return refuse(NOBODY);
        }
        if (otherThan(what, 3)) {
            return refuse(OTHER);
        }
        int told = what < 2 ? now.quilts[bed] : now.covers[bed];
        return what % 2 == 0 ? lengthOf(told) : breadthOf(told);
    }

    public int personOf(int person, int what) {
        if (noOne(person)) {
            return refuse(NOBODY);
        }
        if (otherThan(what, 1)) {
            return refuse(OTHER);
        }
        return what == 0 ? now.arms[person] : now.skills[person];
    }

    public int wayOf(int way, int what) {
        if (noWay(way)) {
            return refuse(NOBODY);
        }
        if (otherThan(what, 1)) {
            return refuse(OTHER);
        }
        return what == 0 ? now.kinds[way] : now.figures[way];
    }

    public int bed(int quilt, int cover) {
        return comes(now.addBed(quilt, cover));
    }

    public int person(int arms, int skill) {
        return comes(now.addPerson(arms, skill));
    }

    public int way(int kind, int figure) {
        return comes(now.addWay(kind, figure));
    }

    // ---- Changes that can be taken back

    public int skill(int person, int v) {
        if (noOne(person)) {
            return refuse(NOBODY);
        }
        if (v < 0) {
            return refuse(BELOW);
        }
        if (v > MOST_SKILL) {
            return refuse(ROOM);
        }
        int before = now.skills[person];
        changes.keep(Changes.SKILL, person, before);
        now.skills[person] = v;
        return before;
    }

    public int cover(int bed, int cover) {
        if (noBed(bed)) {
            return refuse(NOBODY);
        }
        if (tooSmall(cover)) {
            return refuse(BELOW);
        }
        if (tooLarge(cover)) {
            return refuse(ROOM);
        }
        int before = now.covers[bed];
        changes.keep(Changes.COVER, bed, before);
        now.covers[bed] = cover;
        return before;
    }

    public int turn(int turn) {
        if (noTurn(turn)) {
            return refuse(OTHER);
        }
        changes.keep(Changes.TURN, 0, now.lie);
        now.lie = Lies.turned(now.lie, turn);
        return Lies.atTheirOwn(now.lie);
    }

    public int back() {
        if (changes.count == 0) {
            return refuse(STATE);
        }
        changes.takeBack(now);
        return changes.count;
    }

    // ---- One bed by one way

    public int takes(int bed, int way, int person, int what) {
        if (lacks(bed, way, person)) {
            return refuse(NOBODY);
        }
        switch (what) {
            case 0:
                return now.secondsBy(bed, way, person);
            case 1:
                return now.foldsBy(bed, way);
            case 2:
                return now.shakesBy(bed, way, person);
            case 3:
                return now.timeBy(bed, way, person);
            default:
                return refuse(OTHER);
        }
    }

    public int bestWay(int bed, int person) {
        if (noBed(bed) || noOne(person)) {
            return refuse(NOBODY);
        }
        return now.bestFor(bed, person);
    }

    public int anew(int bed, int person, int way, int other, int k, int what) {
        if (lacks(bed, way, person) || noTwoWays(way, other)) {
            return refuse(NOBODY);
        }
        if (k < 0) {
            return refuse(BELOW);
        }
        if (k > MOST_SHAKES) {
            return refuse(ROOM);
        }
        if (otherThan(what, 1)) {
            return refuse(OTHER);
        }
        int shakes = now.shakesBy(bed, way, person);
        int anewTime = now.timeBy(bed, other, person);
        // TIME is never below 0, so without FOLDS left beginning anew never counts as quicker.
        if (what == 0) {
            return anewTime < SHAKE * (shakes - k) ? 1 : 0;
        }
        int least = 0;
        while (least < shakes && anewTime < SHAKE * (shakes - least)) {
            least++;
        }
        return least;
    }

    public int onBed(int bed, int way, int person) {
        if (lacks(bed, way, person)) {
            return INT_REFUSALS - refuse(NOBODY);
        }
        int arms = Math.min(MOST_ARMS, now.arms[person] + STANDING_ARMS);
        int standing = now.timeWith(bed, way, arms, now.skills[person]) + CLIMBING;
        return now.timeBy(bed, way, person) - standing;
    }

    public int together(int bed, int way, int one, int other) {
        if (noBed(bed) || noWay(way) || noTwoPeople(one, other)) {
            return refuse(NOBODY);
        }
        return now.timeTogether(bed, way, one, other);
    }

    public int waits(int bed, int way, int one, int other) {
        if (noBed(bed) || noWay(way) || noTwoPeople(one, other)) {
            return refuse(NOBODY);
        }
        int longest = now.timeBy(bed, way, one) - now.timeTogether(bed, way, one, other);
        return longest < 0 ? NONE : longest;
    }

    public int crosswise(int bed, int what) {
        if (noBed(bed)) {
            return INT_REFUSALS - refuse(NOBODY);
        }
        if (otherThan(what, 1)) {
            return INT_REFUSALS - refuse(OTHER);
        }
        int quilt = now.quilts[bed];
        int cover = now.covers[bed];
        if (what == 0) {
            return apartAlong(quilt, cover) - apartAcross(quilt, cover);
        }
        return tellsApart(breadthOf(quilt), cover) > tellsApart(lengthOf(quilt), cover) ? 1 : 0;
    }

    public int tapes(int bed, int way, int person, int s) {
        if (lacks(bed, way, person)) {
            return refuse(NOBODY);
        }
        if (s < 0) {
            return refuse(BELOW);
        }
        if (s > MOST_SEWING) {
            return refuse(ROOM);
        }
        int taped = now.timeOf(bed, TAPED_KIND, 0, now.arms[person], now.skills[person]);
        int saved = now.timeBy(bed, way, person) - taped;
        if (saved <= 0) {
            return NONE;
        }
        int mornings = s / saved + 1;
        return mornings > MOST_MORNINGS ? NONE : mornings;
    }

    public int needs(int bed, int way, int person, int t, int what) {
        if (lacks(bed, way, person)) {
            return refuse(NOBODY);
        }
        if (t < 0) {
            return refuse(BELOW);
        }
        if (t > MOST_SECONDS) {
            return refuse(ROOM);
        }
        if (otherThan(what, 1)) {
            return refuse(OTHER);
        }
        return what == 0 ? armsFor(bed, way, person, t) : skillFor(bed, way, person, t);
    }

    public int line(int bed, int way, int person) {
        if (lacks(bed, way, person)) {
            return refuse(NOBODY);
        }
        int told = now.figures[way];
        int least = NONE;
        for (int figure = 0; figure <= MOST_FIGURE && least == NONE; figure++) {
            now.figures[way] = figure;
            if (now.bestFor(bed, person) != way) {
                least = figure;
            }
        }
        now.figures[way] = told;
        return least;
    }

    public int left(int bed, int way, int person, int k) {
        if (lacks(bed, way, person)) {
            return refuse(NOBODY);
        }
        if (k < 0) {
            return refuse(BELOW);
        }
        if (k > MOST_SHAKES) {
            return refuse(ROOM);
        }
        return Math.max(0, now.foldsBy(bed, way) - k * foldsAShake(now.arms[person]));
    }

    // ---- All beds by one way

    public int covers(int way, int i) {
        if (noWay(way)) {
            return refuse(NOBODY);
        }
        if (i < ALL) {
            return refuse(BELOW);
        }
        for (int quilt = 0; quilt < now.beds; quilt++) {
            for (int cover = 0; cover < now.beds; cover++) {
                search.cost[quilt][cover] = now.foldsInto(quilt, cover, way);
            }
        }
        search.cheapestOrder(now.beds);
        return search.answer(i);
    }

    public int swap(int way) {
        if (noWay(way)) {
            return refuse(NOBODY);
        }
        int best = NONE;
        int fewest = 0;
        for (int one = 0; one < now.beds; one++) {
            for (int other = one + 1; other < now.beds; other++) {
                int more = now.foldsInto(one, other, way) + now.foldsInto(other, one, way)
                        - now.foldsBy(one, way) - now.foldsBy(other, way);
                if (more < fewest) {
                    fewest = more;
                    best = 10 * one + other;
                }
            }
        }
        return best;
    }

    public int learned(int way, int person) {
        if (noWay(way) || noOne(person)) {
            return refuse(NOBODY);
        }
        int sum = 0;
        for (int bed = 0; bed < now.beds; bed++) {
            sum += now.timeLearned(bed, way, person, bed);
        }
        return sum;
    }

    public int order(int way, int person, int i) {
        if (noWay(way) || noOne(person)) {
            return refuse(NOBODY);
        }
        if (i < ALL) {
            return refuse(BELOW);
        }
        for (int done = 0; done < now.beds; done++) {
            for (int bed = 0; bed < now.beds; bed++) {
                search.cost[done][bed] = now.timeLearned(bed, way, person, done);
            }
        }
        search.cheapestOrder(now.beds);
        return search.answer(i);
    }

    public int flow(int way, int one, int other, int i) {
        if (noWay(way) || noTwoPeople(one, other)) {
            return refuse(NOBODY);
        }
        if (i < ALL) {
            return refuse(BELOW);
        }
        for (int bed = 0; bed < now.beds; bed++) {
            search.putIn[bed] = now.secondsBy(bed, way, one);
            search.shaken[bed] = SHAKE * now.shakesBy(bed, way, other);
        }
        search.soonestFlow(now.beds);
        return search.answer(i);
    }

    public long cat(int way, int person, int t, int part) {
        int refusal = catRefusal(way, person, t);
        if (refusal == 0 && otherThan(part, 1)) {
            refusal = OTHER;
        }
        if (refusal != 0) {
            return LONG_REFUSALS - refuse(refusal);
        }
        long above = (long) now.timeOfAll(way, person) * (t + 1);
        int divisor = commonDivisor(above, t);
        return part == 0 ? above / divisor : t / divisor;
    }

    public int look(int way, int person, int t) {
        int refusal = catRefusal(way, person, t);
        if (refusal != 0) {
            return refuse(refusal);
        }
        // What a cat adds in the mean is a t-th of TIME: both sides times t keep it whole.
        return LOOKING * now.beds * t < now.timeOfAll(way, person) ? 1 : 0;
    }

    public int rather(int one, int other, int person, int what) {
        if (noTwoWays(one, other) || noOne(person)) {
            return refuse(NOBODY);
        }
        if (otherThan(what, 1)) {
            return refuse(OTHER);
        }
        int quicker = 0;
        int asQuick = 0;
        for (int bed = 0; bed < now.beds; bed++) {
            int more = now.timeBy(bed, other, person) - now.timeBy(bed, one, person);
            if (more > 0) {
                quicker++;
            } else if (more == 0) {
                asQuick++;
            }
        }
        return what == 0 ? quicker : asQuick;
    }

    public int half(int way, int person) {
        if (noWay(way) || noOne(person)) {
            return refuse(NOBODY);
        }
        int beds = 0;
        for (int bed = 0; bed < now.beds; bed++) {
            int shaking = SHAKE * now.shakesBy(bed, way, person);
            if (2 * shaking > now.timeBy(bed, way, person)) {
                beds++;
            }
        }
        return beds;
    }

    public int twins(int what) {
        if (otherThan(what, 1)) {
            return refuse(OTHER);
        }
        int twos = 0;
        for (int one = 0; one < now.beds; one++) {
            for (int other = one + 1; other < now.beds; other++) {
                boolean alike = now.covers[one] == now.covers[other];
                if (alike && (what == 0 || now.quilts[one] == now.quilts[other])) {
                    twos++;
                }
            }
        }
        return twos;
    }

    // ---- All beds, each by the best way

    public int who(int i) {
        if (i < ALL) {
            return refuse(BELOW);
        }
        if (now.people == 0 || now.ways == 0) {
            return refuse(STATE);
        }
        shareBeds();
        return search.answer(i);
    }

    public int teach() {
        if (now.people == 0 || now.ways == 0) {
            return refuse(STATE);
        }
        int best = NONE;
        int least = shareBeds();
        for (int person = 0; person < now.people; person++) {
            int told = now.skills[person];
            now.skills[person] = Math.min(MOST_SKILL, told + 1);
            int time = shareBeds();
            now.skills[person] = told;
            if (time < least) {
                least = time;
                best = person;
            }
        }
        return best;
    }

    public int worst(int person) {
        if (noOne(person)) {
            return refuse(NOBODY);
        }
        if (now.ways == 0) {
            return NONE;
        }
        int worst = NONE;
        int most = -1;
        for (int bed = 0; bed < now.beds; bed++) {
            int time = now.bestTime(bed, person);
            if (time > most) {
                most = time;
                worst = bed;
            }
        }
        return worst;
    }

    public int teacher(int what) {
        if (otherThan(what, 1)) {
            return refuse(OTHER);
        }
        if (now.ways == 0) {
            return refuse(STATE);
        }
        int best = NONE;
        int least = NONE;
        int allBeds = now.allBeds();
        for (int person = 0; person < now.people; person++) {
            int time = now.bestTimeOf(allBeds, person);
            if (best == NONE || time < least) {
                least = time;
                best = person;
            }
        }
        return what == 0 ? best : least;
    }

    public int split(int one, int other, int what) {
        if (noTwoPeople(one, other)) {
            return refuse(NOBODY);
        }
        if (otherThan(what, 1)) {
            return refuse(OTHER);
        }
        if (now.ways == 0) {
            return refuse(STATE);
        }
        int allBeds = now.allBeds();
        int bits = 0;
        int soonest = NO_TIME;
        for (int beds = 0; beds <= allBeds; beds++) {
            int done = Math.max(now.bestTimeOf(beds, one), now.bestTimeOf(allBeds - beds, other));
            if (done < soonest) {
                soonest = done;
                bits = beds;
            }
        }
        return what == 0 ? soonest : bits;
    }

    public int inTime(int person, int t) {
        if (noOne(person)) {
            return refuse(NOBODY);
        }
        if (t < 0) {
            return refuse(BELOW);
        }
        if (t > MOST_SECONDS) {
            return refuse(ROOM);
        }
        if (now.ways == 0) {
            return refuse(STATE);
        }
        int most = 0;
        int allBeds = now.allBeds();
        for (int beds = 0; beds <= allBeds; beds++) {
            if (now.bestTimeOf(beds, person) <= t) {
                most = Math.max(most, Integer.bitCount(beds));
            }
        }
        return most;
    }

    public int enough(int person) {
        if (noOne(person)) {
            return refuse(NOBODY);
        }
        int allWays = (1 << now.ways) - 1;
        int best = allWays;
        for (int ways = 0; ways < allWays; ways++) {
            if (Integer.bitCount(ways) < Integer.bitCount(best) && suffice(ways, person)) {
                best = ways;
            }
        }
        return best;
    }

    public int range(int person) {
        if (noOne(person)) {
            return refuse(NOBODY);
        }
        if (now.ways == 0) {
            return refuse(STATE);
        }
        int least = NO_TIME;
        int most = 0;
        for (int bed = 0; bed < now.beds; bed++) {
            int time = now.bestTime(bed, person);
            least = Math.min(least, time);
            most = Math.max(most, time);
        }
        return now.beds == 0 ? 0 : most - least;
    }

    // ---- Corners

    public int corner(int corner, int what) {
        // "Any": with what 2 the corner is not looked at, one that is no CORNER is not refused.
        if (what == 2) {
            return Lies.insideOut(now.lie);
        }
        if (noCorner(corner)) {
            return refuse(NOBODY);
        }
        if (otherThan(what, 1)) {
            return refuse(OTHER);
        }
        return what == 0 ? Lies.placeOf(now.lie, corner) : Lies.cornerAt(now.lie, corner);
    }

    public int right(int i) {
        if (i < ALL) {
            return refuse(BELOW);
        }
        lies.spread(now.lie);
        return i == ALL ? lies.turnsTo(Lies.RIGHT) : lies.turnTo(Lies.RIGHT, i);
    }

    public int lands(int corner) {
        if (noCorner(corner)) {
            return refuse(NOBODY);
        }
        if (!rowIsTurns()) {
            return refuse(STATE);
        }
        return Lies.placeOf(rowDone(now.lie), corner);
    }

    public int orderOf() {
        if (!rowIsTurns()) {
            return refuse(STATE);
        }
        int times = 1;
        int lie = rowDone(now.lie);
        while (times < MOST_ROUNDS && lie != now.lie) {
            lie = rowDone(lie);
            times++;
        }
        return times;
    }

    public int mixed() {
        return CORNERS - Lies.atTheirOwn(now.lie);
    }

    public int waysToLie(int n) {
        if (n < 0) {
            return refuse(BELOW);
        }
        if (n > MOST_TURNS) {
            return refuse(ROOM);
        }
        lies.spread(now.lie);
        return lies.within(n);
    }

    public int reach() {
        if (!rowIsCorners()) {
            return refuse(STATE);
        }
        lies.spread(now.lie);
        int turns = lies.turnsTo(Lies.lieOf(row));
        return turns > MOST_TURNS ? NONE : turns;
    }

    public int commute(int one, int other) {
        if (noTurn(one) || noTurn(other)) {
            return refuse(OTHER);
        }
        int ahead = Lies.turned(Lies.turned(Lies.RIGHT, one), other);
        int behind = Lies.turned(Lies.turned(Lies.RIGHT, other), one);
        return ahead == behind ? 1 : 0;
    }

    // ---- The row

    public int row(int v) {
        if (v < 0) {
            return refuse(BELOW);
        }
        if (v > MOST_NUMBER || inRow >= MOST_IN_ROW) {
            return refuse(ROOM);
        }
        row[inRow] = v;
        inRow++;
        return inRow;
    }

    public int clear() {
        int had = inRow;
        inRow = 0;
        return had;
    }

    public int lumpy() {
        if (inRow > now.beds) {
            return refuse(STATE);
        }
        int ways = 0;
        for (int way = 0; way < now.ways; way++) {
            boolean allSo = true;
            for (int bed = 0; bed < inRow; bed++) {
                allSo = allSo && foldsAsTold(bed, way);
            }
            if (allSo) {
                ways |= 1 << way;
            }
        }
        return ways;
    }

    public int forged() {
        if (inRow > now.beds) {
            return refuse(STATE);
        }
        for (int bed = 0; bed < inRow; bed++) {
            boolean some = row[bed] == UNTOLD;
            for (int way = 0; way < now.ways; way++) {
                some = some || foldsAsTold(bed, way);
            }
            if (!some) {
                return bed;
            }
        }
        return NONE;
    }

    public int judge(int way, int person) {
        if (noWay(way) || noOne(person)) {
            return refuse(NOBODY);
        }
        int first = NONE;
        for (int bed = 0; bed < inRow && first == NONE; bed++) {
            if (bed >= now.beds || Math.min(MOST_NUMBER, now.timeBy(bed, way, person)) != row[bed]) {
                first = bed;
            }
        }
        inRow = 0;
        return first;
    }

    // ---- Mornings by lot, the image, counts

    public int lots(int n, int z, int what) {
        if (n < 1) {
            return refuse(BELOW);
        }
        if (n > MOST_DRAWN_MORNINGS) {
            return refuse(ROOM);
        }
        if (otherThan(what, 1)) {
            return refuse(OTHER);
        }
        if (now.ways == 0 || now.people == 0) {
            return 0;
        }
        int sum = 0;
        int greatest = 0;
        int seed = z;
        for (int morning = 0; morning < n; morning++) {
            int time = 0;
            for (int bed = 0; bed < now.beds; bed++) {
                seed = nextSeed(seed);
                int way = drawBelow(seed, now.ways);
                seed = nextSeed(seed);
                time += now.timeBy(bed, way, drawBelow(seed, now.people));
            }
            sum += time;
            greatest = Math.max(greatest, time);
        }
        return what == 0 ? sum : greatest;
    }

    public int image() {
        image.copyFrom(now);
        imageTaken = true;
        return now.beds;
    }

    public int restore() {
        if (!imageTaken) {
            return refuse(STATE);
        }
        now.copyFrom(image);
        changes.count = 0;
        return now.beds;
    }

    public int count(int what) {
        if (what >= 11 && what <= 10 + REFUSAL_KINDS) {
            return refused[what - 10];
        }
        switch (what) {
            case 0:
                return now.beds;
            case 1:
                return now.people;
            case 2:
                return now.ways;
            case 3:
                return Lies.atTheirOwn(now.lie);
            case 4:
                return Lies.insideOut(now.lie);
            case 5:
                return letters.count;
            case 6:
                return inRow;
            case 7:
                return changes.count;
            default:
                return NONE;
        }
    }

    // ---- What the calls share

    private int refuse(int refusal) {
        refused[-refusal]++;
        return refusal;
    }

    private boolean noBed(int bed) {
        return bed < 0 || bed >= now.beds;
    }

    private boolean noOne(int person) {
        return person < 0 || person >= now.people;
    }

    private boolean noWay(int way) {
        return way < 0 || way >= now.ways;
    }

    private boolean lacks(int bed, int way, int person) {
        return noBed(bed) || noWay(way) || noOne(person);
    }

    private boolean noTwoPeople(int one, int other) {
        return noOne(one) || noOne(other) || one == other;
    }

    private boolean noTwoWays(int one, int other) {
        return noWay(one) || noWay(other) || one == other;
    }

    private static boolean noCorner(int corner) {
        return corner < 0 || corner >= CORNERS;
    }

    private static boolean noTurn(int turn) {
        return turn < 0 || turn >= TURNS;
    }

    private static boolean otherThan(int what, int most) {
        return what < 0 || what > most;
    }

    /** What is added leaves nothing to be taken back; what is refused changes nothing. */
    private int comes(int number) {
        if (number < 0) {
            return refuse(number);
        }
        changes.count = 0;
        return number;
    }

    private int houseTold() {
        int place = letters.faultPlace();
        if (place >= 0) {
            return -1000 - place;
        }
        // A FAULT in a later STATEMENT must leave the earlier ones undone: they come to a copy first.
        trial.copyFrom(now);
        place = letters.tellTo(trial);
        if (place >= 0) {
            return -2000 - place;
        }
        now.copyFrom(trial);
        changes.count = 0;
        return letters.statements();
    }

    private int armsFor(int bed, int way, int person, int t) {
        for (int arms = 1; arms <= MOST_ARMS; arms++) {
            if (now.timeWith(bed, way, arms, now.skills[person]) <= t) {
                return arms;
            }
        }
        return NONE;
    }

    private int skillFor(int bed, int way, int person, int t) {
        for (int skill = 0; skill <= MOST_SKILL; skill++) {
            if (now.timeWith(bed, way, now.arms[person], skill) <= t) {
                return skill;
            }
        }
        return NONE;
    }

    private int shareBeds() {
        for (int bed = 0; bed < now.beds; bed++) {
            for (int person = 0; person < now.people; person++) {
                search.cost[bed][person] = now.bestTime(bed, person);
            }
        }
        return search.soonestShare(now.beds, now.people);
    }

    private boolean suffice(int ways, int person) {
        for (int bed = 0; bed < now.beds; bed++) {
            int best = now.bestTime(bed, person);
            boolean asQuick = false;
            for (int way = 0; way < now.ways; way++) {
                asQuick = asQuick || (ways >> way & 1) == 1 && now.timeBy(bed, way, person) == best;
            }
            if (!asQuick) {
                return false;
            }
        }
        return true;
    }

    private int catRefusal(int way, int person, int t) {
        if (noWay(way) || noOne(person)) {
            return NOBODY;
        }
        if (t < 2) {
            return BELOW;
        }
        return t > MOST_ODDS ? ROOM : 0;
    }

    private boolean foldsAsTold(int bed, int way) {
        return row[bed] == UNTOLD || now.foldsBy(bed, way) == row[bed];
    }

    private boolean rowIsTurns() {
        for (int i = 0; i < inRow; i++) {
            if (noTurn(row[i])) {
                return false;
            }
        }
        return true;
    }

    private boolean rowIsCorners() {
        if (inRow != CORNERS) {
            return false;
        }
        int seen = 0;
        for (int i = 0; i < CORNERS; i++) {
            if (noCorner(row[i])) {
                return false;
            }
            seen |= 1 << row[i];
        }
        return seen == (1 << CORNERS) - 1;
    }

    private int rowDone(int lie) {
        int done = lie;
        for (int i = 0; i < inRow; i++) {
            done = Lies.turned(done, row[i]);
        }
        return done;
    }

    private static int nextSeed(int seed) {
        return seed * 1103515245 + 12345;
    }

    private static int drawBelow(int seed, int n) {
        return n < 1 ? 0 : (seed & 0x7fffffff) / 65536 % n;
    }

    private static int commonDivisor(long one, int other) {
        for (int divisor = other; divisor > 1; divisor--) {
            if (one % divisor == 0 && other % divisor == 0) {
                return divisor;
            }
        }
        return 1;
    }

    private static int lengthOf(int told) {
        return told / 100;
    }

    private static int breadthOf(int told) {
        return told % 100;
    }

    private static int sizeOf(int told) {
        return lengthOf(told) + breadthOf(told);
    }

    private static boolean tooSmall(int told) {
        return lengthOf(told) < 1 || breadthOf(told) < 1;
    }

    private static boolean tooLarge(int told) {
        return lengthOf(told) > MOST_SIZE || breadthOf(told) > MOST_SIZE;
    }

    private static int apartAlong(int quilt, int cover) {
        return Math.abs(lengthOf(quilt) - lengthOf(cover)) + Math.abs(breadthOf(quilt) - breadthOf(cover));
    }

    private static int apartAcross(int quilt, int cover) {
        return Math.abs(lengthOf(quilt) - breadthOf(cover)) + Math.abs(breadthOf(quilt) - lengthOf(cover));
    }

    /** How much one side of a quilt is nearer to the one side of the cover than to the other. */
    private static int tellsApart(int side, int cover) {
        return Math.abs(Math.abs(side - lengthOf(cover)) - Math.abs(side - breadthOf(cover)));
    }

    private static int foldsAShake(int arms) {
        return arms / 2 + 1;
    }

    private static int shakesTill(int folds, int aShake) {
        return aShake < 1 ? 0 : (folds + aShake - 1) / aShake;
    }

    /**
     * KIND 0, and what the kinds under it begin from. Size is a quilt's LENGTH and BREADTH together,
     * along and across are how far it is from its cover lengthways and crosswise.
     */
    private static class Way {
        int secondsFor(int size, int skill, int figure) {
            return Math.max(1, size - skill);
        }

        int foldsFor(int along, int across, int figure) {
            return along + figure;
        }
    }

    private static class Crept extends Way {
        int secondsFor(int size, int skill, int figure) {
            return super.secondsFor(size, skill, figure) + 2 * figure;
        }

        int foldsFor(int along, int across, int figure) {
            return 2 * super.foldsFor(along, across, figure);
        }
    }

    private static class Turned extends Way {
        int secondsFor(int size, int skill, int figure) {
            return 3 * super.secondsFor(size, skill, figure) / 4 + figure;
        }

        int foldsFor(int along, int across, int figure) {
            return super.foldsFor(along, across, figure) / 2;
        }
    }

    private static final class Rolled extends Turned {
        int secondsFor(int size, int skill, int figure) {
            return super.secondsFor(size, skill, figure) / 2 + 10;
        }

        int foldsFor(int along, int across, int figure) {
            return Math.max(0, super.foldsFor(along, across, figure) - 2);
        }
    }

    private static final class Crossed extends Crept {
        int secondsFor(int size, int skill, int figure) {
            return super.secondsFor(size, skill, figure) + 20;
        }

        int foldsFor(int along, int across, int figure) {
            return across + figure;
        }
    }

    private static final class Taped extends Turned {
        int secondsFor(int size, int skill, int figure) {
            return super.secondsFor(size, skill, figure) + 5;
        }

        int foldsFor(int along, int across, int figure) {
            return super.foldsFor(along, across, figure) / 3;
        }
    }

    /** All that THE IMAGE keeps, and TIME by it. Its numbers are looked at by who asks. */
    private static final class House {
        private final Way[] byKind;
        private final int[] quilts = new int[MOST_BEDS];
        private final int[] covers = new int[MOST_BEDS];
        private final int[] arms = new int[MOST_PEOPLE];
        private final int[] skills = new int[MOST_PEOPLE];
        private final int[] kinds = new int[MOST_WAYS];
        private final int[] figures = new int[MOST_WAYS];
        private int beds = 0;
        private int people = 0;
        private int ways = 0;
        private int lie = Lies.RIGHT;

        House(Way[] byKind) {
            this.byKind = byKind;
        }

        void copyFrom(House other) {
            System.arraycopy(other.quilts, 0, quilts, 0, MOST_BEDS);
            System.arraycopy(other.covers, 0, covers, 0, MOST_BEDS);
            System.arraycopy(other.arms, 0, arms, 0, MOST_PEOPLE);
            System.arraycopy(other.skills, 0, skills, 0, MOST_PEOPLE);
            System.arraycopy(other.kinds, 0, kinds, 0, MOST_WAYS);
            System.arraycopy(other.figures, 0, figures, 0, MOST_WAYS);
            beds = other.beds;
            people = other.people;
            ways = other.ways;
            lie = other.lie;
        }

        int addBed(int quilt, int cover) {
            if (tooSmall(quilt) || tooSmall(cover)) {
                return BELOW;
            }
            if (tooLarge(quilt) || tooLarge(cover) || beds >= MOST_BEDS) {
                return ROOM;
            }
            quilts[beds] = quilt;
            covers[beds] = cover;
            beds++;
            return beds - 1;
        }

        int addPerson(int armsTold, int skillTold) {
            if (armsTold < 1 || skillTold < 0) {
                return BELOW;
            }
            if (armsTold > MOST_ARMS || skillTold > MOST_SKILL || people >= MOST_PEOPLE) {
                return ROOM;
            }
            arms[people] = armsTold;
            skills[people] = skillTold;
            people++;
            return people - 1;
        }

        int addWay(int kind, int figure) {
            if (otherThan(kind, KINDS - 1)) {
                return OTHER;
            }
            if (figure < 0) {
                return BELOW;
            }
            if (figure > MOST_FIGURE || ways >= MOST_WAYS) {
                return ROOM;
            }
            kinds[ways] = kind;
            figures[ways] = figure;
            ways++;
            return ways - 1;
        }

        int allBeds() {
            return (1 << beds) - 1;
        }

        int timeOf(int bed, int kind, int figure, int armsOf, int skillOf) {
            int along = apartAlong(quilts[bed], covers[bed]);
            int across = apartAcross(quilts[bed], covers[bed]);
            int folds = byKind[kind].foldsFor(along, across, figure);
            int seconds = byKind[kind].secondsFor(sizeOf(quilts[bed]), skillOf, figure);
            return seconds + SHAKE * shakesTill(folds, foldsAShake(armsOf));
        }

        int timeWith(int bed, int way, int armsOf, int skillOf) {
            return timeOf(bed, kinds[way], figures[way], armsOf, skillOf);
        }

        int timeBy(int bed, int way, int person) {
            return timeOf(bed, kinds[way], figures[way], arms[person], skills[person]);
        }

        int timeLearned(int bed, int way, int person, int done) {
            return timeWith(bed, way, arms[person], Math.min(MOST_SKILL, skills[person] + done));
        }

        int timeTogether(int bed, int way, int one, int other) {
            int slower = Math.max(secondsBy(bed, way, one), secondsBy(bed, way, other));
            int aShake = foldsAShake(arms[one]) + foldsAShake(arms[other]);
            return slower / 2 + 2 + SHAKE * shakesTill(foldsBy(bed, way), aShake);
        }

        int timeOfAll(int way, int person) {
            int sum = 0;
            for (int bed = 0; bed < beds; bed++) {
                sum += timeBy(bed, way, person);
            }
            return sum;
        }

        int secondsBy(int bed, int way, int person) {
            return byKind[kinds[way]].secondsFor(sizeOf(quilts[bed]), skills[person], figures[way]);
        }

        int foldsInto(int quiltOf, int coverOf, int way) {
            int along = apartAlong(quilts[quiltOf], covers[coverOf]);
            int across = apartAcross(quilts[quiltOf], covers[coverOf]);
            return byKind[kinds[way]].foldsFor(along, across, figures[way]);
        }

        int foldsBy(int bed, int way) {
            return foldsInto(bed, bed, way);
        }

        int shakesBy(int bed, int way, int person) {
            return shakesTill(foldsBy(bed, way), foldsAShake(arms[person]));
        }

        int bestFor(int bed, int person) {
            int best = NONE;
            int least = NO_TIME;
            for (int way = 0; way < ways; way++) {
                int time = timeBy(bed, way, person);
                if (time < least) {
                    least = time;
                    best = way;
                }
            }
            return best;
        }

        int bestTime(int bed, int person) {
            int least = NO_TIME;
            for (int way = 0; way < ways; way++) {
                least = Math.min(least, timeOf(bed, kinds[way], figures[way], arms[person], skills[person]));
            }
            return least;
        }

        /** TIME of BEDS (bits), each by the BEST WAY; asked only where there are WAYS. */
        int bestTimeOf(int bits, int person) {
            int sum = 0;
            for (int bed = 0; bed < beds; bed++) {
                if ((bits >> bed & 1) == 1) {
                    sum += bestTime(bed, person);
                }
            }
            return sum;
        }
    }

    /** The letters of a HOUSE as they come. */
    private static final class Letters {
        private final int[] letters = new int[MOST_LETTERS];
        private int count = 0;

        int add(int letter) {
            letters[count] = letter;
            count++;
            return count;
        }

        /** The place of a FAULT of kind 1, or -1. */
        int faultPlace() {
            boolean open = false;
            int least = 0;
            int most = 0;
            for (int at = 0; at < count; at++) {
                int letter = letters[at];
                if (!open) {
                    most = mostDigits(letter);
                    least = letter == 't' ? 1 : most;
                    if (most == 0) {
                        return at;
                    }
                    open = true;
                } else if (letter >= '0' && letter <= '9' && most > 0) {
                    most--;
                    least--;
                } else if (letter == ';' && least <= 0) {
                    open = false;
                } else {
                    return at;
                }
            }
            return open || count == 0 ? count : -1;
        }

        private static int mostDigits(int letter) {
            switch (letter) {
                case 'b':
                    return 8;
                case 'p':
                    return 3;
                case 'w':
                    return 2;
                case 't':
                    return 9;
                default:
                    return 0;
            }
        }

        int statements() {
            int ends = 0;
            for (int at = 0; at < count; at++) {
                if (letters[at] == ';') {
                    ends++;
                }
            }
            return ends;
        }

        /** The place of a FAULT of kind 2, or -1: then all is told. Asked only without one of kind 1. */
        int tellTo(House house) {
            int begin = 0;
            for (int at = 0; at < count; at++) {
                if (letters[at] == ';') {
                    if (!tellStatement(begin, at, house)) {
                        return begin;
                    }
                    begin = at + 1;
                }
            }
            return -1;
        }

        private boolean tellStatement(int begin, int end, House house) {
            switch (letters[begin]) {
                case 'b':
                    return house.addBed(number(begin + 1, begin + 5), number(begin + 5, end)) >= 0;
                case 'p':
                    return house.addPerson(number(begin + 1, begin + 3), number(begin + 3, end)) >= 0;
                case 'w':
                    return house.addWay(number(begin + 1, begin + 2), number(begin + 2, end)) >= 0;
                default:
                    return tellTurns(begin + 1, end, house);
            }
        }

        private boolean tellTurns(int begin, int end, House house) {
            for (int at = begin; at < end; at++) {
                int turn = number(at, at + 1);
                if (noTurn(turn)) {
                    return false;
                }
                house.lie = Lies.turned(house.lie, turn);
            }
            return true;
        }

        private int number(int begin, int end) {
            int number = 0;
            for (int at = begin; at < end && at < count; at++) {
                number = 10 * number + letters[at] - '0';
            }
            return number;
        }
    }

    /** What can be TAKEN BACK, the latest last. */
    private static final class Changes {
        private static final int SKILL = 0;
        private static final int COVER = 1;
        private static final int TURN = 2;

        private final int[] whats = new int[MOST_CHANGES];
        private final int[] whose = new int[MOST_CHANGES];
        private final int[] befores = new int[MOST_CHANGES];
        private int count = 0;

        void keep(int what, int of, int before) {
            if (count >= MOST_CHANGES) {
                dropOldest();
            }
            whats[count] = what;
            whose[count] = of;
            befores[count] = before;
            count++;
        }

        private void dropOldest() {
            for (int i = 1; i < MOST_CHANGES; i++) {
                whats[i - 1] = whats[i];
                whose[i - 1] = whose[i];
                befores[i - 1] = befores[i];
            }
            count = MOST_CHANGES - 1;
        }

        void takeBack(House house) {
            if (count < 1) {
                return;
            }
            count--;
            int before = befores[count];
            if (whats[count] == TURN) {
                house.lie = before;
            } else if (whats[count] == SKILL) {
                house.skills[whose[count]] = before;
            } else {
                house.covers[whose[count]] = before;
            }
        }
    }

    /**
     * How the corners lie, as one number: two bits for the corner at each place, those of place 0
     * lowest, and above them 1 inside out. An object of it finds the fewest TURNS from one lie.
     */
    private static final class Lies {
        private static final int RIGHT = 0xE4;
        private static final int INSIDE_OUT = 1 << 2 * CORNERS;
        /** For each TURN and each place, whence the corner comes that lies there then. */
        private static final int[] FROM = {2, 3, 0, 1, 1, 0, 3, 2, 2, 0, 3, 1, 1, 0, 3, 2};
        private static final int INSIDE_OUT_TURN = 3;
        /** As many as four corners in any order, either side out, can lie. */
        private static final int MOST_LIES = 48;

        private final int[] lies = new int[MOST_LIES];
        private final int[] turns = new int[MOST_LIES];
        private final int[] from = new int[MOST_LIES];
        private final int[] by = new int[MOST_LIES];
        private int found = 0;

        static int cornerAt(int lie, int place) {
            return lie >> 2 * place & 3;
        }

        static int placeOf(int lie, int corner) {
            int place = 0;
            while (place < CORNERS - 1 && cornerAt(lie, place) != corner) {
                place++;
            }
            return place;
        }

        static int insideOut(int lie) {
            return (lie & INSIDE_OUT) == 0 ? 0 : 1;
        }

        static int atTheirOwn(int lie) {
            int own = 0;
            for (int place = 0; place < CORNERS; place++) {
                if (cornerAt(lie, place) == place) {
                    own++;
                }
            }
            return own;
        }

        /** The lie with these corners at 0, 1, 2, 3, right side out. */
        static int lieOf(int[] corners) {
            int lie = 0;
            for (int place = 0; place < CORNERS && place < corners.length; place++) {
                lie |= (corners[place] & 3) << 2 * place;
            }
            return lie;
        }

        static int turned(int lie, int turn) {
            if (noTurn(turn)) {
                return lie;
            }
            int then = lie & INSIDE_OUT;
            for (int place = 0; place < CORNERS; place++) {
                then |= cornerAt(lie, FROM[CORNERS * turn + place]) << 2 * place;
            }
            return turn == INSIDE_OUT_TURN ? then ^ INSIDE_OUT : then;
        }

        /**
         * Finds all lies, the nearest first. What is found first is gone on from first, the lesser
         * TURN first: so the way kept to each lie is the first (by TURNS) of the fewest.
         */
        void spread(int start) {
            lies[0] = start;
            turns[0] = 0;
            found = 1;
            for (int at = 0; at < found && at < MOST_LIES; at++) {
                for (int turn = 0; turn < TURNS; turn++) {
                    int lie = turned(lies[at], turn);
                    if (indexOf(lie) < 0 && found < MOST_LIES) {
                        lies[found] = lie;
                        turns[found] = turns[at] + 1;
                        from[found] = at;
                        by[found] = turn;
                        found++;
                    }
                }
            }
        }

        private int indexOf(int lie) {
            for (int at = 0; at < found; at++) {
                if (lies[at] == lie) {
                    return at;
                }
            }
            return -1;
        }

        int turnsTo(int lie) {
            int at = indexOf(lie);
            return at < 0 ? NONE : turns[at];
        }

        int turnTo(int lie, int i) {
            int at = indexOf(lie);
            if (at < 0 || i < 0 || i >= turns[at]) {
                return NONE;
            }
            for (int turn = turns[at]; turn > i + 1; turn--) {
                at = from[at];
            }
            return by[at];
        }

        int within(int most) {
            int count = 0;
            for (int at = 0; at < found; at++) {
                if (turns[at] <= most) {
                    count++;
                }
            }
            return count;
        }
    }

    /**
     * Finds the first of the best ways to choose something for each of a few. Choices are tried in
     * their order and left as soon as they are no better than the best: costs are never below 0.
     */
    private static final class Search {
        private final int[][] cost = new int[MOST_BEDS][MOST_BEDS];
        private final int[] putIn = new int[MOST_BEDS];
        private final int[] shaken = new int[MOST_BEDS];
        private final int[] loads = new int[MOST_PEOPLE];
        private final int[] tried = new int[MOST_BEDS];
        private final int[] best = new int[MOST_BEDS];
        private int size = 0;
        private int people = 0;
        private int least = 0;

        /** What the best costs (-1), or what it chooses for the i-th. */
        int answer(int i) {
            if (i < 0) {
                return least;
            }
            return i < size ? best[i] : NONE;
        }

        void cheapestOrder(int n) {
            begin(n);
            tryOrders(this, 0, 0, 0);
        }

        void soonestFlow(int n) {
            begin(n);
            tryFlows(this, 0, 0, 0, 0);
        }

        int soonestShare(int n, int among) {
            begin(n);
            people = Math.min(MOST_PEOPLE, among);
            for (int person = 0; person < people; person++) {
                loads[person] = 0;
            }
            tryShares(this, 0, 0);
            return least;
        }

        private void begin(int n) {
            size = Math.min(MOST_BEDS, n);
            least = NO_TIME;
        }

        private void keepTried(int sum) {
            least = sum;
            System.arraycopy(tried, 0, best, 0, MOST_BEDS);
        }

        private static void tryOrders(Search of, int at, int used, int sum) {
            if (sum >= of.least) {
                return;
            }
            if (at >= of.size) {
                of.keepTried(sum);
                return;
            }
            for (int i = 0; i < of.size; i++) {
                if ((used >> i & 1) == 0) {
                    of.tried[at] = i;
                    tryOrders(of, at + 1, used | 1 << i, sum + of.cost[at][i]);
                }
            }
        }

        private static void tryFlows(Search of, int at, int used, int in, int done) {
            if (done >= of.least) {
                return;
            }
            if (at >= of.size) {
                of.keepTried(done);
                return;
            }
            for (int i = 0; i < of.size; i++) {
                if ((used >> i & 1) == 0) {
                    of.tried[at] = i;
                    int inThen = in + of.putIn[i];
                    tryFlows(of, at + 1, used | 1 << i, inThen, Math.max(inThen, done) + of.shaken[i]);
                }
            }
        }

        private static void tryShares(Search of, int at, int latest) {
            if (latest >= of.least) {
                return;
            }
            if (at >= of.size) {
                of.keepTried(latest);
                return;
            }
            for (int person = 0; person < of.people; person++) {
                of.tried[at] = person;
                of.loads[person] += of.cost[at][person];
                tryShares(of, at + 1, Math.max(latest, of.loads[person]));
                of.loads[person] -= of.cost[at][person];
            }
        }
    }
}

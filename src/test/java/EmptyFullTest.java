/** Nothing there, something lacking, and all full: BEDS, PEOPLE, WAYS, letters, the ROW, what can be TAKEN BACK. */
public final class EmptyFullTest {
    private static final Due D = new Due("EmptyFullTest");
    private static final int INTS = 1000000000;
    private static final long LONGS = 4000000000000000000L;

    public static void main(String[] args) {
        newObjectTells();
        newObjectOfBeds();
        newObjectOfCorners();
        noBeds();
        noBedsInOrder();
        noPeople();
        noWays();
        oneOfEach();
        full();
        fullOfBeds();
        fullOfPeople();
        fullHouseInLetters();
        fullLetters();
        fullRow();
        fullOfChanges();
        fullOfChangesOfMany();
        refusedWhenFullOfChanges();
        D.end();
    }

    // ---- Nothing there

    private static void newObjectTells() {
        BothCorners x = new BothCorners();
        D.due("house", x.house(), -1000);
        D.due("bedOf", x.bedOf(0, 0), -1);
        D.due("personOf", x.personOf(0, 0), -1);
        D.due("wayOf", x.wayOf(0, 0), -1);
        D.due("skill", x.skill(0, 5), -1);
        D.due("cover", x.cover(0, 101), -1);
        D.due("back", x.back(), -3);
        D.due("restore", x.restore(), -3);
        D.due("clear", x.clear(), 0);
        D.due("lots", x.lots(20, 5, 0), 0);
        D.due("lots, the greatest", x.lots(20, 5, 1), 0);
        D.due("-1 counted", x.count(11), 5);
        D.due("-3 counted", x.count(13), 2);
        D.due("no others counted", x.count(12) + x.count(14) + x.count(15) + x.count(16), 0);
        D.due("image", x.image(), 0);
        D.due("restore, of nothing", x.restore(), 0);
        BothCorners[] fresh = new BothCorners[5];
        for (int i = 0; i < fresh.length; i++) {
            fresh[i] = new BothCorners();
        }
        D.due("feed, the first", fresh[0].feed(0), 1);
        D.due("bed, the first", fresh[1].bed(101, 101), 0);
        D.due("person, the first", fresh[2].person(1, 0), 0);
        D.due("way, the first", fresh[3].way(0, 0), 0);
        D.due("row, the first", fresh[4].row(0), 1);
    }

    private static void newObjectOfBeds() {
        BothCorners x = new BothCorners();
        D.due("takes", x.takes(0, 0, 0, 0), -1);
        D.due("bestWay", x.bestWay(0, 0), -1);
        D.due("anew", x.anew(0, 0, 0, 1, 0, 0), -1);
        D.due("onBed", x.onBed(0, 0, 0), INTS + 1);
        D.due("together", x.together(0, 0, 0, 1), -1);
        D.due("waits", x.waits(0, 0, 0, 1), -1);
        D.due("crosswise", x.crosswise(0, 0), INTS + 1);
        D.due("covers", x.covers(0, -1), -1);
        D.due("learned", x.learned(0, 0), -1);
        D.due("order", x.order(0, 0, -1), -1);
        D.due("tapes", x.tapes(0, 0, 0, 0), -1);
        D.due("cat", x.cat(0, 0, 2, 0), LONGS + 1);
        D.due("look", x.look(0, 0, 2), -1);
        D.due("needs", x.needs(0, 0, 0, 0, 0), -1);
        D.due("worst", x.worst(0), -1);
        D.due("swap", x.swap(0), -1);
        D.due("rather", x.rather(0, 1, 0, 0), -1);
        D.due("line", x.line(0, 0, 0), -1);
        D.due("half", x.half(0, 0), -1);
        D.due("split", x.split(0, 1, 0), -1);
        D.due("inTime", x.inTime(0, 0), -1);
        D.due("left", x.left(0, 0, 0, 0), -1);
        D.due("enough", x.enough(0), -1);
        D.due("flow", x.flow(0, 0, 1, -1), -1);
        D.due("range", x.range(0), -1);
        D.due("judge", x.judge(0, 0), -1);
        D.due("who", x.who(-1), -3);
        D.due("teacher", x.teacher(0), -3);
        D.due("teach", x.teach(), -3);
        D.due("twins", x.twins(0), 0);
        D.due("-1 counted", x.count(11), 26);
        D.due("-3 counted", x.count(13), 3);
    }

    private static void newObjectOfCorners() {
        BothCorners x = new BothCorners();
        D.due("lumpy", x.lumpy(), 0);
        D.due("forged", x.forged(), -9);
        for (int corner = 0; corner < 4; corner++) {
            D.due("corner lies at its own", x.corner(corner, 0), corner);
            D.due("its own lies there", x.corner(corner, 1), corner);
            D.due("right side out", x.corner(corner, 2), 0);
            D.due("lands by no ROW", x.lands(corner), corner);
        }
        D.due("right", x.right(-1), 0);
        D.due("no TURN", x.right(0), -9);
        D.due("orderOf no ROW", x.orderOf(), 1);
        D.due("mixed", x.mixed(), 0);
        D.due("waysToLie by none", x.waysToLie(0), 1);
        D.due("reach by no ROW", x.reach(), -3);
        x.row(0);
        D.due("lumpy, a number more than BEDS", x.lumpy(), -3);
        D.due("forged, a number more than BEDS", x.forged(), -3);
        D.due("turn, the first", x.turn(3), 0);
    }

    private static void noBeds() {
        BothCorners x = Due.house("p010;p129;w00;w19;");
        D.due("who, TIME", x.who(-1), 0);
        D.due("who, none", x.who(0), -9);
        D.due("teacher, of several the least", x.teacher(0), 0);
        D.due("teacher, that", x.teacher(1), 0);
        D.due("worst", x.worst(0), -9);
        D.due("split", x.split(0, 1, 0), 0);
        D.due("split, BEDS", x.split(0, 1, 1), 0);
        D.due("inTime", x.inTime(0, 999), 0);
        D.due("teach", x.teach(), -9);
        D.due("enough", x.enough(0), 0);
        D.due("twins", x.twins(0), 0);
        D.due("range", x.range(0), 0);
        D.due("lots", x.lots(20, 1, 0), 0);
        D.due("lots, the greatest", x.lots(20, 1, 1), 0);
        D.due("bestWay", x.bestWay(0, 0), -1);
        D.due("image", x.image(), 0);
    }

    private static void noBedsInOrder() {
        BothCorners x = Due.house("p010;p129;w00;w19;");
        D.due("covers", x.covers(0, -1), 0);
        D.due("covers, none", x.covers(0, 0), -9);
        D.due("learned", x.learned(0, 0), 0);
        D.due("order", x.order(0, 0, -1), 0);
        D.due("order, none", x.order(0, 0, 0), -9);
        D.due("flow", x.flow(0, 0, 1, -1), 0);
        D.due("flow, none", x.flow(0, 0, 1, 0), -9);
        D.due("lumpy, all WAYS", x.lumpy(), 3);
        D.due("forged", x.forged(), -9);
        D.due("cat, 0", x.cat(0, 0, 20, 0), 0);
        D.due("cat, over 1", x.cat(0, 0, 20, 1), 1);
        D.due("look: 0 is not fewer than 0", x.look(0, 0, 2), 0);
        D.due("swap", x.swap(0), -9);
        D.due("rather", x.rather(0, 1, 0, 0), 0);
        D.due("rather, as quick", x.rather(0, 1, 0, 1), 0);
        D.due("half", x.half(0, 0), 0);
        D.due("judge without a ROW", x.judge(0, 0), -9);
        x.row(0);
        D.due("judge: no such one", x.judge(0, 0), 0);
    }

    private static void noPeople() {
        BothCorners x = Due.house("b02020304;b03040202;w00;w10;");
        D.due("who", x.who(-1), -3);
        D.due("who, below goes ahead", x.who(-2), -4);
        D.due("teach", x.teach(), -3);
        D.due("teacher", x.teacher(0), -9);
        D.due("teacher, that", x.teacher(1), -9);
        D.due("lots", x.lots(3, 1, 0), 0);
        D.due("covers, of nobody", x.covers(0, -1), 0);
        D.due("swap, of nobody", x.swap(0), 1);
        D.due("lumpy, of nobody", x.lumpy(), 3);
        D.due("takes", x.takes(0, 0, 0, 0), -1);
        D.due("bestWay", x.bestWay(0, 0), -1);
        D.due("worst", x.worst(0), -1);
    }

    private static void noWays() {
        BothCorners x = Due.house("b02020304;b03040202;p010;p020;");
        D.due("bestWay", x.bestWay(0, 0), -9);
        D.due("who", x.who(-1), -3);
        D.due("worst", x.worst(0), -9);
        D.due("teacher", x.teacher(0), -3);
        D.due("split", x.split(0, 1, 0), -3);
        D.due("inTime", x.inTime(0, 0), -3);
        D.due("teach", x.teach(), -3);
        D.due("enough", x.enough(0), 0);
        D.due("range", x.range(0), -3);
        D.due("lots", x.lots(3, 1, 0), 0);
        D.due("lumpy", x.lumpy(), 0);
        D.due("forged without a ROW", x.forged(), -9);
        x.row(99);
        x.row(0);
        D.due("forged: nothing is told of the first", x.forged(), 1);
        D.due("covers", x.covers(0, -1), -1);
        BothCorners y = Due.house("b01010101;");
        D.due("no PEOPLE and no WAYS: teacher", y.teacher(0), -3);
        D.due("no PEOPLE and no WAYS: other goes ahead", y.teacher(2), -2);
    }

    private static void oneOfEach() {
        BothCorners x = Due.house("b05050505;p010;w00;");
        D.due("who, TIME", x.who(-1), 10);
        D.due("who does it", x.who(0), 0);
        D.due("no second", x.who(1), -9);
        D.due("covers", x.covers(0, 0), 0);
        D.due("no second", x.covers(0, 1), -9);
        D.due("order", x.order(0, 0, 0), 0);
        D.due("no second", x.order(0, 0, 1), -9);
        D.due("together: there is no other", x.together(0, 0, 0, 0), -1);
        D.due("anew: there is no other", x.anew(0, 0, 0, 0, 0, 0), -1);
        D.due("swap: there is no other", x.swap(0), -9);
        D.due("twins: there is no other", x.twins(0), 0);
        D.due("range of one", x.range(0), 0);
        D.due("worst of one", x.worst(0), 0);
        D.due("teacher of one", x.teacher(0), 0);
        D.due("teach", x.teach(), 0);
        D.due("enough", x.enough(0), 1);
    }

    // ---- All full

    /** Six alike beds of 20 SECONDS without FOLDS, four alike people, six alike ways. */
    private static BothCorners fullHouse() {
        BothCorners x = new BothCorners();
        for (int bed = 0; bed < 6; bed++) {
            D.due("bed " + bed, x.bed(1010, 1010), bed);
        }
        for (int person = 0; person < 4; person++) {
            D.due("person " + person, x.person(1, 0), person);
        }
        for (int way = 0; way < 6; way++) {
            D.due("way " + way, x.way(0, 0), way);
        }
        return x;
    }

    private static void full() {
        BothCorners x = fullHouse();
        D.due("no BED more", x.bed(101, 101), -6);
        D.due("no one more", x.person(1, 0), -6);
        D.due("no WAY more", x.way(0, 0), -6);
        D.due("counted", x.count(16), 3);
        D.due("below goes ahead of no room", x.bed(101, 100), -4);
        D.due("below goes ahead of no room", x.person(1, -1), -4);
        D.due("below goes ahead of no room", x.way(0, -1), -4);
        D.due("other goes ahead of no room", x.way(6, 0), -2);
        D.due("BEDS", x.count(0), 6);
        D.due("PEOPLE", x.count(1), 4);
        D.due("WAYS", x.count(2), 6);
        D.due("the last BED", x.takes(5, 5, 3, 3), 20);
        D.due("none behind it", x.takes(6, 5, 3, 3), -1);
        D.due("none behind the last WAY", x.takes(5, 6, 3, 3), -1);
        D.due("none behind the last one", x.takes(5, 5, 4, 3), -1);
        D.due("image", x.image(), 6);
        x.cover(5, 2424);
        x.skill(3, 9);
        D.due("restore", x.restore(), 6);
        D.due("the last COVER", 100 * x.bedOf(5, 2) + x.bedOf(5, 3), 1010);
        D.due("the last one's SKILL", x.personOf(3, 1), 0);
        D.due("the last WAY", x.wayOf(5, 0), 0);
        D.due("full still", x.bed(101, 101), -6);
    }

    private static void fullOfBeds() {
        BothCorners x = fullHouse();
        int[] want = {0, 1, 2, 3, 4, 5, -9, -9};
        for (int i = 0; i < want.length; i++) {
            D.due("covers " + i, x.covers(5, i), want[i]);
            D.due("order " + i, x.order(5, 3, i), want[i]);
            D.due("flow " + i, x.flow(5, 3, 2, i), want[i]);
        }
        D.due("covers, FOLDS", x.covers(5, -1), 0);
        D.due("order, TIME", x.order(5, 3, -1), 20 + 19 + 18 + 17 + 16 + 15);
        D.due("learned", x.learned(5, 3), 105);
        D.due("flow, when", x.flow(5, 3, 2, -1), 120);
        D.due("swap", x.swap(5), -9);
        D.due("twins", x.twins(0), 15);
        D.due("twins, QUILTS, too", x.twins(1), 15);
        D.due("cat above", x.cat(5, 3, 20, 0), 126);
        D.due("cat below", x.cat(5, 3, 20, 1), 1);
        D.due("look: 30 is fewer than 40", x.look(5, 3, 3), 1);
        D.due("look: 30 is not fewer than 30", x.look(5, 3, 4), 0);
        D.due("half", x.half(5, 3), 0);
        D.due("rather, as quick", x.rather(5, 4, 3, 1), 6);
        D.due("lots", x.lots(20, 1, 0), 2400);
        D.due("lots, the greatest", x.lots(20, 1, 1), 120);
        Due.row(x, 0, 0, 0, 0, 0, 0);
        D.due("lumpy", x.lumpy(), 63);
        D.due("forged", x.forged(), -9);
        D.due("a number more than BEDS", x.row(0), 7);
        D.due("lumpy", x.lumpy(), -3);
        D.due("forged", x.forged(), -3);
        D.due("judge", x.judge(5, 3), 0);
        Due.row(x, 20, 20, 20, 20, 20, 20);
        D.due("judge", x.judge(5, 3), -9);
        Due.row(x, 20, 20, 20, 20, 20, 20, 20);
        D.due("judge: no such one", x.judge(5, 3), 6);
    }

    private static void fullOfPeople() {
        BothCorners x = fullHouse();
        int[] want = {0, 0, 1, 1, 2, 2, -9, -9};
        for (int i = 0; i < want.length; i++) {
            D.due("who " + i, x.who(i), want[i]);
        }
        D.due("who, TIME", x.who(-1), 40);
        D.due("teacher", x.teacher(0), 0);
        D.due("teacher, that", x.teacher(1), 120);
        D.due("worst", x.worst(3), 0);
        D.due("range", x.range(3), 0);
        D.due("teach", x.teach(), -9);
        D.due("enough", x.enough(3), 1);
        D.due("split", x.split(3, 2, 0), 60);
        D.due("split, BEDS", x.split(3, 2, 1), 7);
        D.due("in time", x.inTime(3, 119), 5);
        D.due("in time", x.inTime(3, 120), 6);
        D.due("bestWay", x.bestWay(5, 3), 0);
        x.skill(3, 9);
        // 11 for each of the last one's: two for him, and of the others none has more than two.
        D.due("who, TIME, one being skilled", x.who(-1), 33);
        D.due("who, the first such way", x.who(0), 0);
        D.due("who, the last BED", x.who(5), 3);
    }

    /** Six BEDS, four PEOPLE and four WAYS are just 96 letters. */
    private static void fullHouseInLetters() {
        String text = "b01240124;".repeat(6) + "p129;".repeat(4) + "w59;".repeat(4);
        BothCorners x = new BothCorners();
        D.due("letters", text.length(), 96);
        D.due("a HOUSE", Due.tell(x, text), 14);
        D.due("two WAYS more", Due.tell(x, "w00;w00;"), 2);
        D.due("all full", 100 * x.count(0) + 10 * x.count(1) + x.count(2), 646);
        D.due("no BED more", Due.tell(x, "t1;b01010101;"), -2003);
        D.due("no one more", Due.tell(x, "t1;t1;p010;"), -2006);
        D.due("no WAY more", Due.tell(x, "t1;w00;t1;"), -2003);
        D.due("nothing of it came", x.count(3), 4);
        D.due("TURNS need no room", Due.tell(x, "t1;"), 1);
        BothCorners y = Due.house("b01010101;".repeat(5) + "p010;p010;p010;");
        D.due("one BED too many", Due.tell(y, "b01010101;b01010101;"), -2010);
        D.due("neither came", y.count(0), 5);
        D.due("just so", Due.tell(y, "b01010101;"), 1);
        D.due("one too many", Due.tell(y, "p010;p010;"), -2005);
        D.due("just so", Due.tell(y, "p010;"), 1);
    }

    private static void fullLetters() {
        BothCorners x = new BothCorners();
        for (int i = 1; i <= 96; i++) {
            D.due("letter " + i, x.feed("t3;".charAt((i - 1) % 3)), i);
        }
        D.due("the 97th", x.feed(';'), -6);
        D.due("the 97th, below goes ahead", x.feed(-1), -4);
        D.due("the 97th, above", x.feed(256), -6);
        D.due("letters", x.count(5), 96);
        D.due("a HOUSE", x.house(), 32);
        D.due("none then", x.count(5), 0);
        D.due("right side out", x.count(4), 0);
        D.due("the first again", x.feed('t'), 1);
        BothCorners y = new BothCorners();
        for (int i = 0; i < 96; i++) {
            y.feed("t3;".charAt(i % 3 == 0 || i < 93 ? i % 3 : 1));
        }
        D.due("the end lacks", y.house(), -1096);
        D.due("none then", y.count(5), 0);
    }

    private static void fullRow() {
        BothCorners x = new BothCorners();
        for (int i = 1; i <= 12; i++) {
            D.due("number " + i, x.row(2), i);
        }
        D.due("the 13th", x.row(2), -6);
        D.due("the 13th, below goes ahead", x.row(-1), -4);
        D.due("numbers", x.count(6), 12);
        D.due("twelve quarters are none", x.lands(0), 0);
        D.due("order of twelve quarters", x.orderOf(), 1);
        D.due("no four corners", x.reach(), -3);
        D.due("cleared", x.clear(), 12);
        D.due("the first again", x.row(3), 1);
        D.due("order of one inside out", x.orderOf(), 2);
    }

    private static void fullOfChanges() {
        for (int changes = 7; changes <= 10; changes++) {
            BothCorners x = Due.house("b01010101;p010;");
            String[] states = new String[changes + 1];
            states[0] = changeable(x);
            for (int i = 1; i <= changes; i++) {
                change(x, i);
                states[i] = changeable(x);
            }
            int kept = Math.min(8, changes);
            D.due("kept of " + changes, x.count(7), kept);
            for (int left = kept - 1; left >= 0; left--) {
                D.due("back", x.back(), left);
                String want = states[changes - kept + left];
                D.due("as it was " + want, changeable(x).equals(want) ? 0 : 1, 0);
            }
            D.due("none more of " + changes, x.back(), -3);
            D.due("what is older stays", x.bedOf(0, 3), changes > 8 ? 2 : 1);
            D.due("what is older stays, too", x.personOf(0, 1), changes > 9 ? 2 : 0);
        }
    }

    private static String changeable(BothCorners x) {
        return x.bedOf(0, 2) + " " + x.bedOf(0, 3) + " " + x.personOf(0, 1) + " " + x.corner(0, 0) + " " + x.count(4);
    }

    /** The 1st, 4th, .. change is of the COVER, the 2nd, 5th, .. of SKILL, the 3rd, 6th, .. a TURN. */
    private static void change(BothCorners x, int i) {
        if (i % 3 == 1) {
            x.cover(0, 101 + i);
        } else if (i % 3 == 2) {
            x.skill(0, i % 10);
        } else {
            x.turn(3 - i / 6);
        }
    }

    /** Each change is of another BED, of another one: each is TAKEN BACK where it was made. */
    private static void fullOfChangesOfMany() {
        BothCorners x = fullHouse();
        for (int i = 0; i < 11; i++) {
            if (i % 2 == 0) {
                x.cover(i / 2, 102 + i);
            } else {
                x.skill(i / 2 % 4, 1 + i % 9);
            }
        }
        // BEDS 0 to 5 by the 1st, 3rd, .. 11th, one 0 by the 2nd and the 10th, 1 to 3 by the 4th, 6th, 8th.
        int[] first = {102, 104, 106, 108, 110, 112};
        for (int taken = 0; taken < 8; taken++) {
            D.due("back", x.back(), 7 - taken);
            for (int bed = 0; bed < 6; bed++) {
                boolean back = 10 - 2 * bed <= taken;
                D.due("COVER of " + bed, 100 * x.bedOf(bed, 2) + x.bedOf(bed, 3), back ? 1010 : first[bed]);
            }
            D.due("SKILL of 0", x.personOf(0, 1), taken >= 1 ? 2 : 1);
            D.due("SKILL of 1", x.personOf(1, 1), taken >= 7 ? 0 : 4);
            D.due("SKILL of 2", x.personOf(2, 1), taken >= 5 ? 0 : 6);
            D.due("SKILL of 3", x.personOf(3, 1), taken >= 3 ? 0 : 8);
        }
        D.due("none more", x.back(), -3);
    }

    private static void refusedWhenFullOfChanges() {
        BothCorners x = fullHouse();
        for (int v = 1; v <= 8; v++) {
            x.skill(0, v);
        }
        x.skill(4, 0);
        x.skill(0, -1);
        x.skill(0, 10);
        x.cover(6, 101);
        x.cover(0, 100);
        x.cover(0, 2501);
        x.turn(-1);
        x.turn(4);
        x.bed(101, 101);
        x.person(1, 0);
        x.way(0, 0);
        x.restore();
        Due.tell(x, "w00;");
        D.due("all can be TAKEN BACK still", x.count(7), 8);
        for (int left = 7; left >= 0; left--) {
            D.due("back", x.back(), left);
            D.due("SKILL", x.personOf(0, 1), left);
        }
        D.due("none more", x.back(), -3);
        for (int v = 1; v <= 8; v++) {
            x.skill(0, v);
        }
        x.back();
        D.due("room for one", x.skill(0, 9), 7);
        D.due("all full again", x.count(7), 8);
    }
}

/** Promises 21 to 24, 34, 35, 37 to 40, 42 to 44, 47, 49 to 52, 56: all beds together, by hand. */
public final class AllBedsTest {
    private static final Due D = new Due("AllBedsTest");
    // Best TIMES: of the first 23 25 19 (by 3, 3, 2), of the second 20 21 10 (by 3, 2, 2).
    private static final String HOUSE =
            "b20102010;b12161412;b08061208;p052;p129;w03;w12;w24;w35;w41;w57;";

    public static void main(String[] args) {
        covers();
        swap();
        who();
        learned();
        order();
        flow();
        cat();
        look();
        worst();
        rather();
        teacher();
        half();
        split();
        inTime();
        teach();
        enough();
        twins();
        range();
        lots();
        D.end();
    }

    private static void covers() {
        BothCorners x = Due.house("b10101212;b12121010;b05050505;p010;w02;w42;");
        D.due("FOLDS", x.covers(0, -1), 6);
        D.due("the first", x.covers(0, 0), 1);
        D.due("the second", x.covers(0, 1), 0);
        D.due("the third", x.covers(0, 2), 2);
        D.due("no fourth", x.covers(0, 3), -9);
        D.due("no such at all", x.covers(0, Integer.MAX_VALUE), -9);
        D.due("no such way", x.covers(2, -2), -1);
        D.due("no such way", x.covers(-1, 0), -1);
        D.due("below", x.covers(0, -2), -4);
        D.due("below", x.covers(0, Integer.MIN_VALUE), -4);
        // Crosswise all go as well into any: the first way by QUILTS.
        BothCorners y = Due.house("b10101010;b10101010;b10101010;w40;");
        for (int i = 0; i < 3; i++) {
            D.due("of several the first", y.covers(0, i), i);
        }
        BothCorners z = Due.house("w00;");
        D.due("no beds", z.covers(0, -1), 0);
        D.due("no beds", z.covers(0, 0), -9);
    }

    private static void swap() {
        BothCorners x = Due.house("b10101212;b12121010;b05050606;b06060505;w00;w40;");
        D.due("the greatest gain", x.swap(0), 1);
        D.due("covers stay", x.bedOf(0, 2), 12);
        x.cover(0, 1010);
        x.cover(1, 1212);
        D.due("the next", x.swap(0), 23);
        x.cover(2, 505);
        x.cover(3, 606);
        D.due("none is fewer", x.swap(0), -9);
        D.due("no such way", x.swap(2), -1);
        D.due("no such way", x.swap(-1), -1);
        D.due("no beds", Due.house("w00;").swap(0), -9);
        D.due("one bed", Due.house("w00;b01012424;").swap(0), -9);
        BothCorners y = Due.house("b05050505;b10101212;b12121010;b10101212;b12121010;w00;");
        D.due("of several the least", y.swap(0), 12);
        BothCorners z = Due.house("b10101010;b10101010;w00;");
        D.due("as few is not fewer", z.swap(0), -9);
    }

    private static void who() {
        BothCorners x = Due.house(HOUSE);
        D.due("TIME", x.who(-1), 30);
        int[] want = {1, 0, 1, -9, -9};
        for (int i = 0; i < want.length; i++) {
            D.due("who " + i, x.who(i), want[i]);
        }
        D.due("below", x.who(-2), -4);
        D.due("below goes ahead of state", new BothCorners().who(-2), -4);
        D.due("no people", Due.house("b01010101;w00;").who(-1), -3);
        D.due("no ways", Due.house("b01010101;p010;").who(0), -3);
        BothCorners y = Due.house("b01010101;b01010101;p010;p010;p010;w00;");
        D.due("each one", y.who(-1), 2);
        D.due("the first such way", y.who(0), 0);
        D.due("the first such way", y.who(1), 1);
    }

    private static void learned() {
        BothCorners x = Due.house(HOUSE);
        D.due("learned", x.learned(0, 0), 84);
        D.due("9 at most", x.learned(0, 1), 60);
        BothCorners y = Due.house("b10101010;b10101010;b10101010;p017;w00;");
        D.due("9 at most", y.learned(0, 0), 13 + 12 + 11);
        Due.tell(y, "b10101010;");
        D.due("9 at most, at once more", y.learned(0, 0), 13 + 12 + 11 + 11);
        D.due("no such way", x.learned(6, 0), -1);
        D.due("no such way", x.learned(-1, 0), -1);
        D.due("no such one", x.learned(0, 2), -1);
        D.due("no such one", x.learned(0, -1), -1);
    }

    private static void order() {
        // 1 SECOND at least: skill is worth nothing for the small bed once it is 1.
        BothCorners x = Due.house("b10101010;b01010101;b05050505;p010;w00;");
        D.due("by numbers", x.learned(0, 0), 20 + 1 + 8);
        D.due("the best", x.order(0, 0, -1), 2 + 9 + 18);
        D.due("of several the first", x.order(0, 0, 0), 0);
        x.skill(0, 1);
        D.due("the best", x.order(0, 0, -1), 1 + 17 + 8);
        D.due("the small one first", x.order(0, 0, 0), 1);
        D.due("then the first", x.order(0, 0, 1), 0);
        D.due("then the last", x.order(0, 0, 2), 2);
        D.due("no fourth", x.order(0, 0, 3), -9);
        D.due("no such way", x.order(1, 0, -2), -1);
        D.due("no such one", x.order(0, 1, -2), -1);
        D.due("below", x.order(0, 0, -2), -4);
        D.due("no beds", Due.house("p010;w00;").order(0, 0, -1), 0);
        D.due("no beds", Due.house("p010;w00;").order(0, 0, 0), -9);
    }

    private static void flow() {
        // WAY: in for 4, 12 and 8 SECONDS; shaken for 18, 3 and 0 (FOLDS 6, 1, 0).
        BothCorners x = Due.house("b02020406;b06060607;b04040404;p010;p019;w00;");
        D.due("in turn", x.takes(0, 0, 0, 3) + x.takes(1, 0, 0, 3) + x.takes(2, 0, 0, 3), 4 + 18 + 12 + 3 + 8);
        D.due("when", x.flow(0, 0, 1, -1), 25);
        D.due("first", x.flow(0, 0, 1, 0), 0);
        D.due("second", x.flow(0, 0, 1, 1), 1);
        D.due("third", x.flow(0, 0, 1, 2), 2);
        D.due("no fourth", x.flow(0, 0, 1, 3), -9);
        // Put in by the second, whose skill is 9: 1, 3 and 1.
        D.due("when, the other way", x.flow(0, 1, 0, -1), 22);
        D.due("the quick one first", x.flow(0, 1, 0, 0), 0);
        D.due("no such way", x.flow(1, 0, 1, -2), -1);
        D.due("no such one", x.flow(0, 2, 1, 0), -1);
        D.due("no such one", x.flow(0, 0, -1, 0), -1);
        D.due("one twice", x.flow(0, 1, 1, 0), -1);
        D.due("below", x.flow(0, 0, 1, -2), -4);
        D.due("no beds", Due.house("p010;p010;w00;").flow(0, 0, 1, -1), 0);
    }

    private static void cat() {
        BothCorners x = Due.house(HOUSE);
        // By way 0 the first takes 31, 35 and 21: 87.
        long[][] want = {{2, 261, 2}, {3, 116, 1}, {4, 435, 4}, {6, 203, 2}, {20, 1827, 20}};
        for (long[] a : want) {
            D.due("cat above " + a[0], x.cat(0, 0, (int) a[0], 0), a[1]);
            D.due("cat below " + a[0], x.cat(0, 0, (int) a[0], 1), a[2]);
        }
        long refusals = 4000000000000000000L;
        D.due("no such way", x.cat(6, 0, 1, 0), refusals + 1);
        D.due("no such way", x.cat(-1, 0, 2, 0), refusals + 1);
        D.due("no such one", x.cat(0, 2, 21, 2), refusals + 1);
        D.due("below", x.cat(0, 0, 1, 2), refusals + 4);
        D.due("room", x.cat(0, 0, 21, 2), refusals + 6);
        D.due("other", x.cat(0, 0, 2, 2), refusals + 2);
        D.due("other", x.cat(0, 0, 2, -1), refusals + 2);
        D.due("counted", 1000 * x.count(11) + 100 * x.count(12) + 10 * x.count(14) + x.count(16), 3211);
        BothCorners y = Due.house("b01010101;p019;w20;");
        BothCorners z = Due.house("b01010101;p010;w00;");
        D.due("10 over 4 above", z.cat(0, 0, 4, 0), 5);
        D.due("10 over 4 below", z.cat(0, 0, 4, 1), 2);
        D.due("no TIME at all", y.cat(0, 0, 7, 0), 0);
        D.due("over 1", y.cat(0, 0, 7, 1), 1);
    }

    private static void look() {
        BothCorners x = Due.house(HOUSE);
        D.due("75 below 87", x.look(0, 0, 5), 1);
        D.due("90 above 87", x.look(0, 0, 6), 0);
        BothCorners y = Due.house("b10101010;p010;w00;");
        D.due("as many is not fewer", y.look(0, 0, 4), 0);
        D.due("fewer", y.look(0, 0, 3), 1);
        D.due("no such way", x.look(6, 0, 1), -1);
        D.due("no such one", x.look(0, 2, 21), -1);
        D.due("below", x.look(0, 0, 1), -4);
        D.due("room", x.look(0, 0, 21), -6);
        D.due("most", x.look(0, 0, 20), 0);
    }

    private static void worst() {
        BothCorners x = Due.house(HOUSE);
        D.due("worst", x.worst(0), 1);
        D.due("worst", x.worst(1), 1);
        D.due("no such one", x.worst(2), -1);
        D.due("no such one", x.worst(-1), -1);
        D.due("no ways", Due.house("b01010101;p010;").worst(0), -9);
        D.due("no beds", Due.house("w00;p010;").worst(0), -9);
        D.due("of several the least", Due.house("w00;p010;b01010101;b02010201;b01020102;").worst(0), 1);
        D.due("no TIME at all", Due.house("w20;p019;b01010101;").worst(0), 0);
    }

    private static void rather() {
        BothCorners x = Due.house(HOUSE);
        D.due("slower", x.rather(0, 2, 0, 0), 0);
        D.due("quicker", x.rather(2, 0, 0, 0), 3);
        // TURNED 28 29 19, ROLLED 23 25 20.
        D.due("quicker with one", x.rather(2, 3, 0, 0), 1);
        D.due("quicker with two", x.rather(3, 2, 0, 0), 2);
        D.due("as quick with none", x.rather(2, 3, 0, 1), 0);
        BothCorners y = Due.house("b10101010;b05050505;p010;w00;w00;");
        D.due("as quick", y.rather(0, 1, 0, 1), 2);
        D.due("not quicker", y.rather(0, 1, 0, 0), 0);
        D.due("one way twice", y.rather(1, 1, 0, 0), -1);
        D.due("no such way", y.rather(0, 2, 0, 2), -1);
        D.due("no such way", y.rather(-1, 0, 0, 0), -1);
        D.due("no such one", y.rather(0, 1, 1, 0), -1);
        D.due("other", y.rather(0, 1, 0, 2), -2);
        D.due("other", y.rather(0, 1, 0, -1), -2);
    }

    private static void teacher() {
        BothCorners x = Due.house(HOUSE);
        D.due("teacher", x.teacher(0), 1);
        D.due("that", x.teacher(1), 51);
        D.due("other", x.teacher(2), -2);
        D.due("other goes ahead of state", new BothCorners().teacher(-1), -2);
        D.due("no ways", Due.house("p010;b01010101;").teacher(0), -3);
        D.due("no people", Due.house("w00;b01010101;").teacher(0), -9);
        D.due("no people", Due.house("w00;b01010101;").teacher(1), -9);
        BothCorners y = Due.house("w00;b10101010;p010;p019;p019;");
        D.due("of several the least", y.teacher(0), 1);
        D.due("that", y.teacher(1), 11);
    }

    private static void half() {
        BothCorners x = Due.house(HOUSE);
        D.due("half", x.half(0, 0), 0);
        D.due("half", x.half(1, 0), 1);
        D.due("just half is not more", Due.house("b01020103;p010;w00;").half(0, 0), 0);
        D.due("more than half", Due.house("b01020103;p011;w00;").half(0, 0), 1);
        D.due("no such way", x.half(6, 0), -1);
        D.due("no such one", x.half(0, 2), -1);
    }

    private static void split() {
        BothCorners x = Due.house(HOUSE);
        D.due("that", x.split(0, 1, 0), 30);
        D.due("of the first", x.split(0, 1, 1), 2);
        D.due("of the other", x.split(1, 0, 1), 5);
        D.due("one twice", x.split(1, 1, 2), -1);
        D.due("no such one", x.split(0, 2, 0), -1);
        D.due("no such one", x.split(-1, 0, 0), -1);
        D.due("other", x.split(0, 1, 2), -2);
        D.due("other goes ahead of state", Due.house("p010;p010;").split(0, 1, -1), -2);
        D.due("no ways", Due.house("p010;p010;").split(0, 1, 0), -3);
        BothCorners y = Due.house("b05050505;b05050505;p010;p010;w00;");
        D.due("of several the least", y.split(0, 1, 1), 1);
        D.due("no beds", Due.house("p010;p010;w00;").split(0, 1, 0), 0);
        D.due("no beds", Due.house("p010;p010;w00;").split(0, 1, 1), 0);
    }

    private static void inTime() {
        BothCorners x = Due.house(HOUSE);
        int[][] want = {{0, 0}, {18, 0}, {19, 1}, {41, 1}, {42, 2}, {66, 2}, {67, 3}, {999, 3}};
        for (int[] a : want) {
            D.due("in time " + a[0], x.inTime(0, a[0]), a[1]);
        }
        D.due("no such one", x.inTime(2, -1), -1);
        D.due("below", x.inTime(0, -1), -4);
        D.due("room", x.inTime(0, 1000), -6);
        BothCorners y = Due.house("b01010101;p010;");
        D.due("below goes ahead of state", y.inTime(0, -1), -4);
        D.due("room goes ahead of state", y.inTime(0, 1000), -6);
        D.due("no ways", y.inTime(0, 5), -3);
    }

    private static void teach() {
        BothCorners x = Due.house(HOUSE);
        D.due("nobody makes it less", x.teach(), -9);
        D.due("skills stay", x.personOf(0, 1), 2);
        D.due("skills stay", x.personOf(1, 1), 9);
        BothCorners y = Due.house("b10101010;b05050505;p013;p010;w00;");
        // 17 and 10, the first for the great bed.
        D.due("now", y.who(-1), 17);
        D.due("the first", y.teach(), 0);
        y.skill(1, 3);
        D.due("either has the great bed: the least", y.teach(), 0);
        y.skill(0, 2);
        D.due("the second", y.teach(), 1);
        D.due("no people", Due.house("w00;").teach(), -3);
        D.due("no ways", Due.house("p010;").teach(), -3);
        D.due("no beds", Due.house("p010;w00;").teach(), -9);
    }

    private static void enough() {
        BothCorners x = Due.house(HOUSE);
        D.due("two ways", x.enough(0), 12);
        D.due("two ways", x.enough(1), 12);
        D.due("no such one", x.enough(2), -1);
        D.due("no such one", x.enough(-1), -1);
        D.due("no beds", Due.house("p010;w00;w00;").enough(0), 0);
        D.due("no ways", Due.house("p010;b01010101;").enough(0), 0);
        D.due("of several the least", Due.house("p010;b01010101;w59;w00;w00;").enough(0), 2);
        D.due("one does for all", Due.house("p010;b08080808;w59;w20;").enough(0), 2);
    }

    private static void twins() {
        BothCorners x = Due.house("b01020304;b01020304;b05060304;b01020403;b02010304;");
        D.due("COVERS alike", x.twins(0), 6);
        D.due("QUILTS, too", x.twins(1), 1);
        D.due("other", x.twins(2), -2);
        D.due("other", x.twins(-1), -2);
        D.due("no beds", new BothCorners().twins(1), 0);
    }

    private static void range() {
        BothCorners x = Due.house(HOUSE);
        D.due("range", x.range(0), 6);
        D.due("range", x.range(1), 11);
        D.due("no such one", x.range(2), -1);
        D.due("no such one", x.range(-1), -1);
        D.due("no ways", Due.house("p010;b01010101;").range(0), -3);
        D.due("no beds", Due.house("p010;w00;").range(0), 0);
        D.due("no beds, no ways", Due.house("p010;").range(0), -3);
    }

    private static void lots() {
        // DRAWS from 1: 16838 5758 10113 17515 31051 5627 | 23010 7419 16212 4086 2749 12767
        BothCorners x = Due.house(HOUSE);
        D.due("a morning", x.lots(1, 1, 0), 28 + 22 + 18);
        D.due("two mornings", x.lots(2, 1, 0), 68 + 77);
        D.due("the greatest", x.lots(2, 1, 1), 77);
        D.due("the greatest", x.lots(1, 1, 1), 68);
        D.due("below", x.lots(0, 1, 2), -4);
        D.due("room", x.lots(21, 1, 2), -6);
        D.due("other", x.lots(20, 1, 2), -2);
        D.due("other", x.lots(20, 1, -1), -2);
        D.due("no people", Due.house("b01010101;w00;").lots(2, 5, 0), 0);
        D.due("no ways", Due.house("b01010101;p010;").lots(2, 5, 0), 0);
        D.due("no beds", Due.house("w00;p010;").lots(20, 5, 1), 0);
        int sum = 0;
        int greatest = 0;
        long z = -77;
        for (int morning = 0; morning < 20; morning++) {
            int time = 0;
            for (int bed = 0; bed < 3; bed++) {
                z = z * 1103515245L + 12345L;
                int way = (int) ((z >> 16 & 32767) % 6);
                z = z * 1103515245L + 12345L;
                time += x.takes(bed, way, (int) ((z >> 16 & 32767) % 2), 3);
            }
            sum += time;
            greatest = Math.max(greatest, time);
        }
        D.due("twenty mornings", x.lots(20, -77, 0), sum);
        D.due("their greatest", x.lots(20, -77, 1), greatest);
    }
}

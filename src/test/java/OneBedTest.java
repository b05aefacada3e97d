/** Promises 14 to 20, 25, 36, 41, 48: one bed by one way. */
public final class OneBedTest {
    private static final Due D = new Due("OneBedTest");
    private static final String HOUSE =
            "b20102010;b12161412;b08061208;p052;p129;w03;w12;w24;w35;w41;w57;";

    public static void main(String[] args) {
        takes();
        takesAtTheEdges();
        bestWay();
        anew();
        onBed();
        together();
        crosswise();
        tapes();
        needs();
        line();
        left();
        D.end();
    }

    private static void takes() {
        // SECONDS, FOLDS, SHAKES, TIME by each WAY, of each BED, of each one.
        int[][][][] want = {
            {{{28, 3, 1, 31}, {32, 4, 2, 38}, {25, 2, 1, 28}, {23, 0, 0, 23}, {50, 21, 7, 71}, {33, 1, 1, 36}},
             {{26, 9, 3, 35}, {30, 16, 6, 48}, {23, 5, 2, 29}, {22, 3, 1, 25}, {48, 3, 1, 51}, {31, 2, 1, 34}},
             {{12, 9, 3, 21}, {16, 16, 6, 34}, {13, 5, 2, 19}, {17, 3, 1, 20}, {34, 7, 3, 43}, {21, 2, 1, 24}}},
            {{{21, 3, 1, 24}, {25, 4, 1, 28}, {19, 2, 1, 22}, {20, 0, 0, 20}, {43, 21, 3, 52}, {27, 1, 1, 30}},
             {{19, 9, 2, 25}, {23, 16, 3, 32}, {18, 5, 1, 21}, {19, 3, 1, 22}, {41, 3, 1, 44}, {26, 2, 1, 29}},
             {{5, 9, 2, 11}, {9, 16, 3, 18}, {7, 5, 1, 10}, {14, 3, 1, 17}, {27, 7, 1, 30}, {15, 2, 1, 18}}}};
        BothCorners x = Due.house(HOUSE);
        for (int person = 0; person < 2; person++) {
            for (int bed = 0; bed < 3; bed++) {
                for (int way = 0; way < 6; way++) {
                    for (int what = 0; what < 4; what++) {
                        D.due("takes " + bed + " " + way + " " + person + " " + what,
                                x.takes(bed, way, person, what), want[person][bed][way][what]);
                    }
                }
            }
        }
        D.due("no such bed", x.takes(3, 0, 0, 0), -1);
        D.due("no such bed", x.takes(-1, 0, 0, 0), -1);
        D.due("no such way", x.takes(0, 6, 0, 0), -1);
        D.due("no such way", x.takes(0, -1, 0, 0), -1);
        D.due("no such one", x.takes(0, 0, 2, 0), -1);
        D.due("no such one", x.takes(0, 0, -1, 9), -1);
        D.due("other", x.takes(0, 0, 0, 4), -2);
        D.due("other", x.takes(0, 0, 0, -1), -2);
    }

    private static void takesAtTheEdges() {
        BothCorners x = Due.house("b01010101;b01012424;b24240101;p019;p010;w00;w19;w20;w30;w40;w50;");
        int[] seconds = {1, 19, 0, 10, 21, 5};
        for (int way = 0; way < 6; way++) {
            D.due("1 at least " + way, x.takes(0, way, 0, 0), seconds[way]);
        }
        D.due("without skill", x.takes(0, 0, 1, 0), 2);
        D.due("a TURNED of nothing", x.takes(0, 2, 0, 3), 0);
        D.due("most FOLDS", x.takes(1, 1, 0, 1), 110);
        D.due("most FOLDS, the other way", x.takes(2, 1, 0, 1), 110);
        D.due("most SHAKES", x.takes(2, 1, 1, 2), 110);
        D.due("0 at least", x.takes(0, 3, 0, 1), 0);
        D.due("most SECONDS", x.takes(2, 1, 1, 0), 66);
        int[] aShake = {1, 2, 2, 3, 3, 4, 4, 5, 5, 6, 6, 7};
        for (int arms = 1; arms <= 12; arms++) {
            BothCorners y = Due.house("b24240101;w00;");
            y.person(arms, 0);
            D.due("SHAKES of ARMS " + arms, y.takes(0, 0, 0, 2), (46 + aShake[arms - 1] - 1) / aShake[arms - 1]);
        }
    }

    private static void bestWay() {
        BothCorners x = Due.house(HOUSE);
        int[][] want = {{3, 3, 2}, {3, 2, 2}};
        for (int person = 0; person < 2; person++) {
            for (int bed = 0; bed < 3; bed++) {
                D.due("best " + bed + " " + person, x.bestWay(bed, person), want[person][bed]);
            }
        }
        D.due("no such bed", x.bestWay(3, 0), -1);
        D.due("no such bed", x.bestWay(-1, 0), -1);
        D.due("no such one", x.bestWay(0, 2), -1);
        D.due("no such one", x.bestWay(0, -1), -1);
        BothCorners y = Due.house("b01010101;p019;");
        D.due("no ways", y.bestWay(0, 0), -9);
        D.due("no ways, no such one", y.bestWay(0, 1), -1);
        Due.tell(y, "w10;w10;w00;");
        D.due("of several the least", y.bestWay(0, 0), 0);
    }

    private static void anew() {
        BothCorners x = Due.house("b24240101;b20102010;p010;p120;w10;w50;w00;");
        // By way 0 there are 92 SHAKES, anew by way 1 it takes 41 and 21.
        D.due("anew at once", x.anew(0, 0, 0, 1, 0, 0), 1);
        D.due("anew behind 40", x.anew(0, 0, 0, 1, 40, 0), 1);
        D.due("least k", x.anew(0, 0, 0, 1, 40, 1), 72);
        D.due("least k, whatever k", x.anew(0, 0, 0, 1, 0, 1), 72);
        // Of arms 12 way 0 takes 14 SHAKES (42), way 1 takes 41 and 3: never quicker.
        D.due("not quicker", x.anew(0, 1, 0, 1, 0, 0), 0);
        D.due("not quicker at all", x.anew(0, 1, 0, 1, 0, 1), 0);
        D.due("no folds", x.anew(1, 0, 0, 1, 0, 0), 0);
        D.due("no folds, least", x.anew(1, 0, 0, 1, 7, 1), 0);
        BothCorners y = Due.house("b01010505;p019;w00;w20;");
        // Way 0: 8 SHAKES; way 1: no SECONDS and 4 SHAKES, 12: as quick behind 4.
        D.due("quicker behind 3", y.anew(0, 0, 0, 1, 3, 0), 1);
        D.due("as quick is not quicker", y.anew(0, 0, 0, 1, 4, 0), 0);
        D.due("least", y.anew(0, 0, 0, 1, 0, 1), 4);
        D.due("behind all", y.anew(0, 0, 0, 1, 8, 0), 0);
        D.due("behind more than all", y.anew(0, 0, 0, 1, 40, 0), 0);
        BothCorners z = Due.house("b01010505;b01010101;p019;w00;w29;w20;");
        D.due("no TIME anew at all", z.anew(1, 0, 1, 2, 3, 0), 1);
        D.due("no FOLDS more", z.anew(1, 0, 1, 2, 4, 0), 0);
        D.due("with the last SHAKE", z.anew(1, 0, 1, 2, 0, 1), 4);
        D.due("no such bed", x.anew(2, 0, 0, 1, -1, 0), -1);
        D.due("no such one", x.anew(0, 2, 0, 1, 41, 0), -1);
        D.due("no such way", x.anew(0, 0, 3, 1, 0, 2), -1);
        D.due("no such other", x.anew(0, 0, 0, 3, 0, 0), -1);
        D.due("no such other", x.anew(0, 0, 0, -1, 0, 0), -1);
        D.due("one way twice", x.anew(0, 0, 1, 1, 0, 0), -1);
        D.due("below", x.anew(0, 0, 0, 1, -1, 2), -4);
        D.due("room", x.anew(0, 0, 0, 1, 41, 2), -6);
        D.due("other", x.anew(0, 0, 0, 1, 0, 2), -2);
        D.due("other", x.anew(0, 0, 0, 1, 0, -1), -2);
    }

    private static void onBed() {
        BothCorners x = Due.house("b24240101;b12161412;p010;p120;p110;p050;w00;");
        D.due("arms 1", x.onBed(0, 0, 0), 82);
        D.due("arms 12 stay", x.onBed(0, 0, 1), -8);
        // 46 FOLDS: 8 SHAKES of 6, 7 of 7.
        D.due("arms 11 become 12", x.onBed(0, 0, 2), -5);
        // 46 FOLDS: 16 SHAKES of 3, 10 of 5.
        D.due("arms 5", x.onBed(0, 0, 3), 10);
        D.due("not worth it", x.onBed(1, 0, 3), -8);
        // 46 FOLDS: 23 SHAKES of 2, 16 of 3.
        BothCorners y = Due.house("b24240101;p020;w00;");
        D.due("arms 2 become 5", y.onBed(0, 0, 0), 69 - 48 - 8);
        D.due("no such bed", x.onBed(2, 0, 0), 1000000001);
        D.due("no such way", x.onBed(0, 1, 0), 1000000001);
        D.due("no such one", x.onBed(0, 0, 4), 1000000001);
        D.due("no such one", x.onBed(0, 0, -1), 1000000001);
        D.due("counted", x.count(11), 4);
    }

    private static void together() {
        BothCorners x = Due.house(HOUSE);
        D.due("together", x.together(1, 0, 0, 1), 18);
        D.due("together, the other way", x.together(1, 0, 1, 0), 18);
        // CREPT: 30 and 23 SECONDS, 16 FOLDS, 10 in a SHAKE.
        D.due("together", x.together(1, 1, 0, 1), 23);
        D.due("wait", x.waits(1, 0, 0, 1), 17);
        D.due("wait of the quick", x.waits(1, 0, 1, 0), 7);
        BothCorners y = Due.house("b02020202;b01020102;b01010101;p010;p010;w00;");
        D.due("as quick", y.waits(0, 0, 0, 1), 0);
        D.due("as quick", y.waits(1, 0, 0, 1), 0);
        D.due("alone at once", y.waits(2, 0, 0, 1), -9);
        int[][] wrong = {{3, 0, 0, 1}, {-1, 0, 0, 1}, {0, 6, 0, 1}, {0, -1, 0, 1},
            {0, 0, 2, 1}, {0, 0, -1, 1}, {0, 0, 0, 2}, {0, 0, 0, -1}, {0, 0, 1, 1}};
        for (int[] a : wrong) {
            D.due("together, nobody", x.together(a[0], a[1], a[2], a[3]), -1);
            D.due("waits, nobody", x.waits(a[0], a[1], a[2], a[3]), -1);
        }
    }

    private static void crosswise() {
        BothCorners x = Due.house("b20102010;b12161412;b15201020;b20151020;b05050505;");
        int[][] want = {{-20, 0}, {4, 0}, {-10, 1}, {10, 0}, {0, 0}};
        for (int bed = 0; bed < 5; bed++) {
            D.due("crosswise " + bed, x.crosswise(bed, 0), want[bed][0]);
            D.due("which tells " + bed, x.crosswise(bed, 1), want[bed][1]);
        }
        for (int sizes = 0; sizes < 625; sizes++) {
            int[] s = {1 + sizes % 5, 1 + sizes / 5 % 5, 1 + sizes / 25 % 5, 1 + sizes / 125};
            BothCorners y = new BothCorners();
            y.bed(100 * s[0] + s[1], 100 * s[2] + s[3]);
            int lengthways = Math.abs(s[0] - s[2]) + Math.abs(s[1] - s[3]);
            int across = Math.abs(s[0] - s[3]) + Math.abs(s[1] - s[2]);
            int byLength = Math.abs(Math.abs(s[0] - s[2]) - Math.abs(s[0] - s[3]));
            int byBreadth = Math.abs(Math.abs(s[1] - s[3]) - Math.abs(s[1] - s[2]));
            D.due("by how much of " + sizes, y.crosswise(0, 0), lengthways - across);
            D.due("which tells of " + sizes, y.crosswise(0, 1), byLength >= byBreadth ? 0 : 1);
        }
        D.due("no such bed", x.crosswise(5, 7), 1000000001);
        D.due("no such bed", x.crosswise(-1, 0), 1000000001);
        D.due("other", x.crosswise(0, 2), 1000000002);
        D.due("other", x.crosswise(0, -1), 1000000002);
        D.due("counted", x.count(11) * 10 + x.count(12), 22);
    }

    private static void tapes() {
        BothCorners x = Due.house(HOUSE);
        // WAY takes 35, TAPED (FIGURE 0) 24 and 3: 8 less a morning.
        int[][] want = {{0, 1}, {7, 1}, {8, 2}, {15, 2}, {16, 3}, {7991, 999}, {7992, -9}, {9999, -9}};
        for (int[] a : want) {
            D.due("tapes " + a[0], x.tapes(1, 0, 0, a[0]), a[1]);
        }
        D.due("TAPED of FIGURE 7, too", x.tapes(1, 5, 0, 6), 1);
        D.due("TAPED of FIGURE 7, too", x.tapes(1, 5, 0, 7), 2);
        BothCorners y = Due.house("b08080808;p010;w50;w20;");
        D.due("as quick is not less", y.tapes(0, 0, 0, 0), -9);
        D.due("slower", y.tapes(0, 1, 0, 0), -9);
        D.due("no such bed", x.tapes(3, 0, 0, -1), -1);
        D.due("no such way", x.tapes(0, 6, 0, 0), -1);
        D.due("no such one", x.tapes(0, 0, 2, 10000), -1);
        D.due("below", x.tapes(0, 0, 0, -1), -4);
        D.due("room", x.tapes(0, 0, 0, 10000), -6);
    }

    private static void needs() {
        BothCorners x = Due.house(HOUSE);
        int[][] arms = {{999, 1}, {53, 1}, {52, 2}, {41, 2}, {40, 4}, {35, 4}, {34, 8}, {32, 8}, {31, -9}, {0, -9}};
        for (int[] a : arms) {
            D.due("needs arms " + a[0], x.needs(1, 0, 0, a[0], 0), a[1]);
        }
        int[][] skill = {{999, 0}, {37, 0}, {36, 1}, {35, 2}, {28, 9}, {27, -9}};
        for (int[] a : skill) {
            D.due("needs skill " + a[0], x.needs(1, 0, 0, a[0], 1), a[1]);
        }
        // 48 SECONDS without skill, 7 SHAKES of 7 till 46 FOLDS are none.
        BothCorners y = Due.house("b24240101;p100;w00;");
        D.due("12 arms", y.needs(0, 0, 0, 69, 0), 12);
        D.due("no more arms", y.needs(0, 0, 0, 68, 0), -9);
        D.due("no such bed", x.needs(3, 0, 0, -1, 0), -1);
        D.due("no such way", x.needs(0, 6, 0, 1000, 0), -1);
        D.due("no such one", x.needs(0, 0, 2, 0, 2), -1);
        D.due("below", x.needs(0, 0, 0, -1, 2), -4);
        D.due("room", x.needs(0, 0, 0, 1000, 2), -6);
        D.due("other", x.needs(0, 0, 0, 0, 2), -2);
        D.due("other", x.needs(0, 0, 0, 0, -1), -2);
    }

    private static void line() {
        BothCorners x = Due.house(HOUSE);
        D.due("a tie goes to the lesser", x.line(1, 3, 0), 7);
        D.due("a tie stays with the lesser", x.line(2, 2, 0), 6);
        D.due("never the best", x.line(0, 4, 0), 0);
        D.due("figures stay", x.wayOf(3, 1), 5);
        D.due("figures stay", x.wayOf(2, 1), 4);
        BothCorners y = Due.house("b08080808;p010;w00;");
        D.due("the only one", y.line(0, 0, 0), -9);
        D.due("figure stays", y.wayOf(0, 1), 0);
        // 16 SECONDS; by TURNED of FIGURE 9 12, 9, and 4 SHAKES: 33.
        Due.tell(y, "w29;");
        D.due("16 and 18 are more than 33", y.line(0, 0, 0), 6);
        D.due("14 and 3 are more than 16", y.line(0, 1, 0), 2);
        D.due("no such bed", x.line(3, 0, 0), -1);
        D.due("no such way", x.line(0, 6, 0), -1);
        D.due("no such one", x.line(0, 0, 2), -1);
    }

    private static void left() {
        BothCorners x = Due.house(HOUSE);
        int[][] want = {{0, 16}, {1, 13}, {5, 1}, {6, 0}, {40, 0}};
        for (int[] a : want) {
            D.due("left " + a[0], x.left(1, 1, 0, a[0]), a[1]);
        }
        D.due("left of arms 12", x.left(1, 1, 1, 2), 2);
        D.due("no such bed", x.left(3, 0, 0, -1), -1);
        D.due("no such way", x.left(0, 6, 0, 41), -1);
        D.due("no such one", x.left(0, 0, 2, 0), -1);
        D.due("below", x.left(0, 0, 0, -1), -4);
        D.due("room", x.left(0, 0, 0, 41), -6);
    }
}

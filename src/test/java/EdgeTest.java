import java.math.BigInteger;

/**
 * Each number that the document bounds, at its least and its greatest and just beside them, with what
 * it is then; where something is cut, is 1 or 0 at least, or is as much; the DRAWS' wrap-around.
 */
public final class EdgeTest {
    private static final Due D = new Due("EdgeTest");

    public static void main(String[] args) {
        letters();
        sizesInLetters();
        peopleInLetters();
        waysInLetters();
        turnsInLetters();
        sizes();
        people();
        ways();
        skills();
        secondsOneAtLeast();
        secondsCut();
        foldsCut();
        shakesCut();
        greatestTakes();
        bestWayAsQuick();
        anewShakes();
        standingArms();
        waitsAsQuick();
        learnedSkill();
        sewing();
        mornings();
        toldFolds();
        odds();
        neededArms();
        neededSkill();
        lineFigures();
        halfOfTime();
        withinSeconds();
        taughtSkill();
        rangeOfTimes();
        foldsLeft();
        turnsNumbers();
        rowsOfTurns();
        reached();
        rowNumbers();
        clearedRow();
        toldTimes();
        morningsByLot();
        draws();
        counts();
        lastCalls();
        D.end();
    }

    // ---- Letters

    private static void letters() {
        int[][] want = {{Integer.MIN_VALUE, -4}, {-1, -4}, {0, 1}, {255, 1}, {256, -6}, {Integer.MAX_VALUE, -6}};
        for (int[] a : want) {
            D.due("feed " + a[0], new BothCorners().feed(a[0]), a[1]);
        }
        // A letter that no HOUSE has is fed all the same: it is the FAULT.
        for (int letter = 0; letter < 256; letter++) {
            BothCorners x = new BothCorners();
            x.feed(letter);
            boolean begins = letter == 'b' || letter == 'p' || letter == 'w' || letter == 't';
            D.due("begins with " + letter, x.house(), begins ? -1001 : -1000);
            BothCorners y = new BothCorners();
            y.feed('w');
            y.feed(letter);
            boolean digit = letter >= '0' && letter <= '9';
            D.due("a digit is " + letter, y.house(), digit ? -1002 : -1001);
            BothCorners z = new BothCorners();
            z.feed('t');
            z.feed('0');
            z.feed(letter);
            D.due("behind a TURN " + letter, z.house(), letter == ';' ? 1 : digit ? -1003 : -1002);
        }
        for (int place = 0; place < 10; place++) {
            StringBuilder text = new StringBuilder("b01020304;");
            text.setCharAt(place, 'x');
            D.due("a FAULT at " + place, Due.tell(new BothCorners(), text.toString()), -1000 - place);
            D.due("it ends at " + place, Due.tell(new BothCorners(), "b01020304;".substring(0, place)), -1000 - place);
        }
    }

    private static void sizesInLetters() {
        for (int size = 0; size <= 99; size++) {
            for (int what = 0; what < 4; what++) {
                StringBuilder text = new StringBuilder("b05060708;");
                text.setCharAt(1 + 2 * what, (char) ('0' + size / 10));
                text.setCharAt(2 + 2 * what, (char) ('0' + size % 10));
                BothCorners x = new BothCorners();
                boolean so = size >= 1 && size <= 24;
                D.due(text.toString(), Due.tell(x, text.toString()), so ? 1 : -2000);
                D.due(text + " told", x.bedOf(0, what), so ? size : -1);
            }
        }
    }

    private static void peopleInLetters() {
        for (int arms = 0; arms <= 99; arms++) {
            for (int skill = 0; skill <= 9; skill += 9) {
                String text = "p" + arms / 10 + arms % 10 + skill + ";";
                BothCorners x = new BothCorners();
                boolean so = arms >= 1 && arms <= 12;
                D.due(text, Due.tell(x, "t0;" + text), so ? 2 : -2003);
                D.due(text + " arms", x.personOf(0, 0), so ? arms : -1);
                D.due(text + " skill", x.personOf(0, 1), so ? skill : -1);
            }
        }
    }

    private static void waysInLetters() {
        for (int kind = 0; kind <= 9; kind++) {
            for (int figure = 0; figure <= 9; figure++) {
                String text = "w" + kind + figure + ";";
                BothCorners x = new BothCorners();
                boolean so = kind <= 5;
                D.due(text, Due.tell(x, text + "t0;"), so ? 2 : -2000);
                D.due(text + " kind", x.wayOf(0, 0), so ? kind : -1);
                D.due(text + " figure", x.wayOf(0, 1), so ? figure : -1);
                D.due(text + " turned behind", x.count(3), so ? 0 : 4);
            }
        }
    }

    private static void turnsInLetters() {
        for (int turn = 0; turn <= 9; turn++) {
            D.due("t" + turn + ";", Due.tell(new BothCorners(), "t" + turn + ";"), turn <= 3 ? 1 : -2000);
        }
        for (int turns = 0; turns <= 11; turns++) {
            BothCorners x = new BothCorners();
            int want = turns == 0 ? -1001 : turns > 9 ? -1010 : 1;
            D.due(turns + " TURNS", Due.tell(x, "t" + "3".repeat(turns) + ";"), want);
            D.due(turns + " TURNS done", x.count(4), want == 1 ? turns % 2 : 0);
        }
    }

    // ---- What there is

    private static void sizes() {
        for (int size = 0; size <= 26; size++) {
            int due = size < 1 ? -4 : size > 24 ? -6 : 0;
            D.due("LENGTH of the QUILT " + size, new BothCorners().bed(100 * size + 5, 506), due);
            D.due("LENGTH of the COVER " + size, new BothCorners().bed(506, 100 * size + 5), due);
            D.due("BREADTH of the QUILT " + size, new BothCorners().bed(500 + size, 506), due);
            D.due("BREADTH of the COVER " + size, new BothCorners().bed(506, 500 + size), due);
            BothCorners x = Due.house("b05060708;");
            D.due("another's LENGTH " + size, x.cover(0, 100 * size + 5), due == 0 ? 708 : due);
            D.due("it is then", x.bedOf(0, 2), due == 0 ? size : 7);
            BothCorners y = Due.house("b05060708;");
            D.due("another's BREADTH " + size, y.cover(0, 500 + size), due == 0 ? 708 : due);
            D.due("it is then", y.bedOf(0, 3), due == 0 ? size : 8);
            D.due("QUILT stays", 100 * y.bedOf(0, 0) + y.bedOf(0, 1), 506);
        }
    }

    private static void people() {
        for (int number = -1; number <= 14; number++) {
            BothCorners x = new BothCorners();
            D.due("ARMS " + number, x.person(number, 5), number < 1 ? -4 : number > 12 ? -6 : 0);
            D.due("ARMS told", x.personOf(0, 0), number < 1 || number > 12 ? -1 : number);
            BothCorners y = new BothCorners();
            D.due("SKILL " + number, y.person(5, number), number < 0 ? -4 : number > 9 ? -6 : 0);
            D.due("SKILL told", y.personOf(0, 1), number < 0 || number > 9 ? -1 : number);
        }
    }

    private static void ways() {
        for (int number = -1; number <= 11; number++) {
            BothCorners x = new BothCorners();
            D.due("KIND " + number, x.way(number, 5), number < 0 || number > 5 ? -2 : 0);
            D.due("KIND told", x.wayOf(0, 0), number < 0 || number > 5 ? -1 : number);
            BothCorners y = new BothCorners();
            D.due("FIGURE " + number, y.way(5, number), number < 0 ? -4 : number > 9 ? -6 : 0);
            D.due("FIGURE told", y.wayOf(0, 1), number < 0 || number > 9 ? -1 : number);
        }
    }

    private static void skills() {
        for (int v = -1; v <= 10; v++) {
            BothCorners x = Due.house("p054;");
            boolean so = v >= 0 && v <= 9;
            D.due("skill " + v, x.skill(0, v), v < 0 ? -4 : v > 9 ? -6 : 4);
            D.due("SKILL then", x.personOf(0, 1), so ? v : 4);
            D.due("ARMS stay", x.personOf(0, 0), 5);
            D.due("to be TAKEN BACK", x.count(7), so ? 1 : 0);
        }
    }

    // ---- Seconds, folds, shakes

    private static void secondsOneAtLeast() {
        for (int size = 2; size <= 12; size++) {
            for (int skill = 0; skill <= 9; skill++) {
                BothCorners x = Due.house("w00;");
                x.bed(100 * (size - 1) + 1, 101);
                x.person(1, skill);
                D.due("WAY of " + size + " less " + skill, x.takes(0, 0, 0, 0), Math.max(1, size - skill));
            }
        }
    }

    private static void secondsCut() {
        // WAY 1 .. 8: three quarters cut, of those half cut.
        int[] turned = {0, 1, 2, 3, 3, 4, 5, 6};
        int[] rolled = {0, 0, 1, 1, 1, 2, 2, 3};
        for (int way = 1; way <= 8; way++) {
            BothCorners x = Due.house("b08010101;w00;w20;w30;w50;w10;w40;");
            x.person(1, 9 - way);
            D.due("WAY", x.takes(0, 0, 0, 0), way);
            D.due("TURNED of " + way, x.takes(0, 1, 0, 0), turned[way - 1]);
            D.due("ROLLED of " + way, x.takes(0, 2, 0, 0), rolled[way - 1] + 10);
            D.due("TAPED of " + way, x.takes(0, 3, 0, 0), turned[way - 1] + 5);
            D.due("CREPT of " + way, x.takes(0, 4, 0, 0), way);
            D.due("CROSSED of " + way, x.takes(0, 5, 0, 0), way + 20);
            BothCorners y = Due.house("b08010101;w29;w39;w59;w19;w49;w09;");
            y.person(1, 9 - way);
            D.due("TURNED and 9", y.takes(0, 0, 0, 0), turned[way - 1] + 9);
            D.due("ROLLED, 9 ahead of the half", y.takes(0, 1, 0, 0), (turned[way - 1] + 9) / 2 + 10);
            D.due("TAPED and 9", y.takes(0, 2, 0, 0), turned[way - 1] + 14);
            D.due("CREPT and 18", y.takes(0, 3, 0, 0), way + 18);
            D.due("CROSSED and 18", y.takes(0, 4, 0, 0), way + 38);
            D.due("WAY whatever FIGURE", y.takes(0, 5, 0, 0), way);
        }
    }

    private static void foldsCut() {
        int[] turned = {0, 0, 1, 1, 2, 2, 3, 3, 4, 4, 5, 5, 6};
        int[] rolled = {0, 0, 0, 0, 0, 0, 1, 1, 2, 2, 3, 3, 4};
        int[] taped = {0, 0, 0, 0, 0, 0, 1, 1, 1, 1, 1, 1, 2};
        for (int apart = 0; apart <= 12; apart++) {
            for (int figure = 0; figure <= Math.min(9, apart); figure++) {
                BothCorners x = Due.house("p010;");
                x.bed(1010, 1010 + apart - figure);
                for (int kind = 0; kind < 6; kind++) {
                    x.way(kind, figure);
                }
                D.due("WAY's FOLDS", x.takes(0, 0, 0, 1), apart);
                D.due("CREPT's FOLDS", x.takes(0, 1, 0, 1), 2 * apart);
                D.due("TURNED's FOLDS", x.takes(0, 2, 0, 1), turned[apart]);
                D.due("ROLLED's FOLDS", x.takes(0, 3, 0, 1), rolled[apart]);
                D.due("CROSSED's FOLDS", x.takes(0, 4, 0, 1), apart);
                D.due("TAPED's FOLDS", x.takes(0, 5, 0, 1), taped[apart]);
            }
        }
    }

    private static void shakesCut() {
        for (int arms = 1; arms <= 12; arms++) {
            int aShake = arms / 2 + 1;
            for (int folds = 0; folds <= 22; folds++) {
                BothCorners x = Due.house("w00;");
                x.bed(101, 100 + 1 + folds);
                x.person(arms, 0);
                int shakes = 0;
                for (int left = folds; left > 0; left -= aShake) {
                    shakes++;
                }
                D.due("FOLDS", x.takes(0, 0, 0, 1), folds);
                D.due(folds + " by ARMS " + arms, x.takes(0, 0, 0, 2), shakes);
                D.due(folds + " by ARMS " + arms + ", TIME", x.takes(0, 0, 0, 3), 2 + 3 * shakes);
            }
        }
    }

    private static void greatestTakes() {
        // The greatest QUILT, the least COVER, FIGURE 9, ARMS 1, no SKILL.
        int[][] want = {{48, 55, 55, 213}, {66, 110, 110, 396}, {45, 27, 27, 126},
            {32, 25, 25, 107}, {86, 55, 55, 251}, {50, 9, 9, 77}};
        BothCorners x = Due.house("b24240101;p010;w09;w19;w29;w39;w49;w59;");
        for (int way = 0; way < 6; way++) {
            for (int what = 0; what < 4; what++) {
                D.due("greatest by KIND " + way + ", " + what, x.takes(0, way, 0, what), want[way][what]);
            }
        }
        D.due("below what", x.takes(0, 0, 0, -1), -2);
        D.due("above what", x.takes(0, 0, 0, 4), -2);
    }

    private static void bestWayAsQuick() {
        // WAY takes 8; TURNED 6 and FIGURE; CROSSED far more.
        int[] want = {1, 1, 0, 0};
        for (int figure = 0; figure < want.length; figure++) {
            BothCorners x = Due.house("b04040404;p010;w00;w2" + figure + ";w40;");
            // A TURNED of FIGURE 2 and 3 leaves a FOLD, of FIGURE 0 and 1 none: 6, 7, 11, 12.
            D.due("best by FIGURE " + figure, x.bestWay(0, 0), want[figure]);
        }
        D.due("of several the least", Due.house("b04040404;p010;w40;w00;w00;").bestWay(0, 0), 1);
    }

    // ---- One bed by one way

    private static void anewShakes() {
        // By the first 110 SHAKES; anew 48 and 46 SHAKES, 186: quicker as long as 63 SHAKES are left.
        BothCorners x = Due.house("b24240101;p010;w19;w00;");
        D.due("anew", x.takes(0, 1, 0, 3), 186);
        int[][] want = {{-1, -4}, {0, 1}, {40, 1}, {41, -6}};
        for (int[] a : want) {
            D.due("anew behind " + a[0], x.anew(0, 0, 0, 1, a[0], 0), a[1]);
            D.due("least, asked with " + a[0], x.anew(0, 0, 0, 1, a[0], 1), a[1] < 0 ? a[1] : 48);
        }
        // 55 SHAKES; anew 36 and 23 SHAKES, 105: as long as 35 SHAKES.
        BothCorners y = Due.house("b24240101;p010;w09;w20;");
        D.due("anew", y.takes(0, 1, 0, 3), 105);
        D.due("behind 19 quicker", y.anew(0, 0, 0, 1, 19, 0), 1);
        D.due("behind 20 as quick", y.anew(0, 0, 0, 1, 20, 0), 0);
        D.due("the least", y.anew(0, 0, 0, 1, 0, 1), 20);
        // What takes nothing is quicker as long as there are FOLDS.
        BothCorners z = Due.house("b01010101;p019;w05;w20;");
        D.due("anew takes nothing", z.takes(0, 1, 0, 3), 0);
        for (int k = 0; k <= 6; k++) {
            D.due("behind " + k, z.anew(0, 0, 0, 1, k, 0), k < 5 ? 1 : 0);
        }
        D.due("till there are none", z.anew(0, 0, 0, 1, 0, 1), 5);
        D.due("never quicker", z.anew(0, 0, 1, 0, 0, 1), 0);
    }

    private static void standingArms() {
        for (int arms = 1; arms <= 12; arms++) {
            BothCorners x = Due.house("b24240101;w00;");
            x.person(arms, 0);
            x.person(Math.min(12, arms + 3), 0);
            D.due("standing, ARMS " + arms, x.onBed(0, 0, 0), x.takes(0, 0, 0, 3) - x.takes(0, 0, 1, 3) - 8);
        }
        // 16 FOLDS: 8 SHAKES by ARMS 2, 6 by ARMS 5: 6 SECONDS less, and 8 for climbing.
        BothCorners y = Due.house("b10101018;p020;w08;w04;");
        D.due("below 0", y.onBed(0, 0, 0), -2);
        D.due("no SHAKES at all", Due.house("b01010101;p010;w00;").onBed(0, 0, 0), -8);
    }

    private static void waitsAsQuick() {
        // Alone 2 to 8 SECONDS without FOLDS; together half of them, cut, and 2.
        int[] want = {-9, 0, 0, 1, 1, 2, 2};
        for (int seconds = 2; seconds <= 8; seconds++) {
            BothCorners x = Due.house("p010;p010;w00;");
            x.bed(100 * (seconds - 1) + 1, 100 * (seconds - 1) + 1);
            D.due("together " + seconds, x.together(0, 0, 0, 1), seconds / 2 + 2);
            D.due("waits " + seconds, x.waits(0, 0, 0, 1), want[seconds - 2]);
        }
        // One of 1 SECOND and another of 10: the slower one's half.
        BothCorners y = Due.house("b05050505;p019;p010;w00;");
        D.due("the slower one's", y.together(0, 0, 0, 1), 7);
        D.due("alone is quicker at once", y.waits(0, 0, 0, 1), -9);
        D.due("the slow one had better wait", y.waits(0, 0, 1, 0), 3);
        // FOLDS 4 and 5: by ARMS 2 and 3 four in a SHAKE.
        D.due("just a SHAKE", Due.house("b05050509;p020;p030;w00;").together(0, 0, 0, 1), 5 + 2 + 3);
        D.due("one FOLD more", Due.house("b05050510;p020;p030;w00;").together(0, 0, 0, 1), 5 + 2 + 6);
    }

    private static void learnedSkill() {
        for (int skill = 0; skill <= 9; skill++) {
            BothCorners x = Due.house("b10101010;b10101010;b10101010;b10101010;w00;");
            x.person(1, skill);
            int sum = 0;
            for (int done = 0; done < 4; done++) {
                sum += 20 - Math.min(9, skill + done);
            }
            D.due("learned from " + skill, x.learned(0, 0), sum);
            D.due("in any order", x.order(0, 0, -1), sum);
            D.due("SKILL stays", x.personOf(0, 1), skill);
        }
    }

    private static void sewing() {
        BothCorners x = Due.house("b20202020;p010;w00;");
        // WAY 40, TAPED 30 and 5: 5 less a morning.
        int[][] want = {{-1, -4}, {0, 1}, {4, 1}, {5, 2}, {9, 2}, {10, 3}, {4989, 998}, {4990, 999},
            {4994, 999}, {4995, -9}, {9999, -9}, {10000, -6}};
        for (int[] a : want) {
            D.due("tapes " + a[0], x.tapes(0, 0, 0, a[0]), a[1]);
        }
    }

    private static void mornings() {
        // WAY 8 to 26: TAPED takes three quarters, cut, and 5: as quick at 20, less from 21 on.
        int[][] want = {{18, -9}, {19, -9}, {20, -9}, {21, 1}, {24, 1}};
        for (int[] a : want) {
            BothCorners x = Due.house("p010;w00;");
            x.bed(100 * (a[0] - 10) + 10, 100 * (a[0] - 10) + 10);
            D.due("tapes of " + a[0], x.tapes(0, 0, 0, 0), a[1]);
        }
        // 21 and 20: one less a morning.
        BothCorners x = Due.house("b10111011;p010;w00;");
        D.due("the greatest number", x.tapes(0, 0, 0, 998), 999);
        D.due("a number above", x.tapes(0, 0, 0, 999), -9);
    }

    private static void neededArms() {
        // 46 FOLDS: 46, 23, 16, 12, 10, 8, 7 SHAKES by ARMS 1, 2, 4, 6, 8, 10, 12, and 48 SECONDS.
        BothCorners x = Due.house("b24240101;p010;w00;");
        int[][] want = {{-1, -4}, {0, -9}, {68, -9}, {69, 12}, {71, 12}, {72, 10}, {77, 10}, {78, 8}, {83, 8}, {84, 6},
            {95, 6}, {96, 4}, {116, 4}, {117, 2}, {185, 2}, {186, 1}, {999, 1}, {1000, -6}};
        for (int[] a : want) {
            D.due("ARMS for " + a[0], x.needs(0, 0, 0, a[0], 0), a[1]);
        }
        BothCorners y = Due.house("b01010101;p129;w20;");
        D.due("nothing is done in 0", y.needs(0, 0, 0, 0, 0), 1);
    }

    private static void neededSkill() {
        BothCorners x = Due.house("b10101010;p019;w00;");
        int[][] want = {{-1, -4}, {0, -9}, {10, -9}, {11, 9}, {12, 8}, {19, 1}, {20, 0}, {999, 0}, {1000, -6}};
        for (int[] a : want) {
            D.due("SKILL for " + a[0], x.needs(0, 0, 0, a[0], 1), a[1]);
        }
        BothCorners y = Due.house("b01010101;p010;w20;");
        D.due("nothing is done in 0 by SKILL 1", y.needs(0, 0, 0, 0, 1), 1);
    }

    private static void lineFigures() {
        // CREPT of FIGURE f takes 20 and 8 f (ARMS 1), WAY of FIGURE g 20 and 3 g.
        for (int g = 0; g <= 9; g++) {
            BothCorners x = Due.house("b10101010;p010;w10;w0" + g + ";");
            D.due("as quick as " + g + " it stays", x.line(0, 0, 0), 3 * g / 8 + 1);
            BothCorners y = Due.house("b10101010;p010;w0" + g + ";w10;");
            D.due("as quick as " + g + " it is not", y.line(0, 1, 0), (3 * g + 7) / 8);
        }
        BothCorners y = Due.house("b10101010;p010;w00;w00;");
        D.due("the first, as quick", y.line(0, 0, 0), 1);
        D.due("the second is not the best at all", y.line(0, 1, 0), 0);
        BothCorners z = Due.house("b10101018;p010;w00;w04;");
        // WAY of FIGURE f: 44 and 3 f; the other is 56.
        D.due("as quick it stays", z.line(0, 0, 0), 5);
        BothCorners far = Due.house("b10101010;p010;w00;w08;");
        D.due("9 it is", far.line(0, 0, 0), 9);
        BothCorners never = Due.house("b10101010;p010;w00;w09;");
        D.due("not even 9", never.line(0, 0, 0), -9);
        D.due("FIGURE stays", never.wayOf(0, 1), 0);
        BothCorners only = Due.house("b10101010;p010;w09;");
        D.due("the only one", only.line(0, 0, 0), -9);
    }

    private static void foldsLeft() {
        BothCorners x = Due.house("b24240101;p020;w00;w19;");
        int[][] want = {{-1, -4}, {0, 46}, {1, 44}, {22, 2}, {23, 0}, {24, 0}, {40, 0}, {41, -6}};
        for (int[] a : want) {
            D.due("left behind " + a[0], x.left(0, 0, 0, a[0]), a[1]);
        }
        D.due("left behind 40", x.left(0, 1, 0, 40), 30);
        D.due("a last odd FOLD", Due.house("b01010104;p020;w00;").left(0, 0, 0, 1), 1);
        D.due("none below 0", Due.house("b01010104;p020;w00;").left(0, 0, 0, 2), 0);
    }

    // ---- All beds

    private static void toldFolds() {
        // CREPT leaves 98, 100 (99 can't be told), WAY 99 never: 99 tells nothing.
        BothCorners x = Due.house("b24240101;b24240201;p010;w13;w14;w00;");
        D.due("98", x.takes(0, 0, 0, 1), 98);
        D.due("100", x.takes(0, 1, 0, 1), 100);
        int[][] want = {{98, 1, -9}, {99, 7, -9}, {46, 4, -9}, {0, 0, 0}, {97, 0, 0}};
        for (int[] a : want) {
            Due.row(x, a[0]);
            D.due("lumpy " + a[0], x.lumpy(), a[1]);
            D.due("forged " + a[0], x.forged(), a[2]);
        }
        Due.row(x, 99, 98);
        D.due("98 by the second WAY", x.lumpy(), 2);
        Due.row(x, 98, 98);
        D.due("by one and the same", x.lumpy(), 0);
        D.due("each by one of them", x.forged(), -9);
        Due.row(x, 98, 97);
        D.due("the second is forged", x.forged(), 1);
    }

    private static void odds() {
        BothCorners x = Due.house("b10101010;p010;w00;");
        for (int t = 0; t <= 22; t++) {
            int refusal = t < 2 ? -4 : t > 20 ? -6 : 0;
            int divisor = gcd(20 * (t + 1), Math.max(1, t));
            long longs = 4000000000000000000L;
            D.due("cat above " + t, x.cat(0, 0, t, 0), refusal < 0 ? longs - refusal : 20 * (t + 1) / divisor);
            D.due("cat below " + t, x.cat(0, 0, t, 1), refusal < 0 ? longs - refusal : t / divisor);
            D.due("look " + t, x.look(0, 0, t), refusal < 0 ? refusal : 5 * t < 20 ? 1 : 0);
        }
        D.due("part below", x.cat(0, 0, 2, -1), 4000000000000000002L);
        D.due("part above", x.cat(0, 0, 2, 2), 4000000000000000002L);
    }

    private static int gcd(int one, int other) {
        return other == 0 ? one : gcd(other, one % other);
    }

    private static void halfOfTime() {
        // At 3, 6, 9 and 12 SECONDS SHAKES take just half: that is not more.
        for (int seconds = 2; seconds <= 12; seconds++) {
            for (int shakes = 0; shakes <= 4; shakes++) {
                BothCorners x = Due.house("p010;w00;");
                x.bed(100 * (seconds - 1) + 1, 100 * (seconds - 1) + 1 + shakes);
                D.due(shakes + " SHAKES and " + seconds, x.half(0, 0), 3 * shakes > seconds ? 1 : 0);
            }
        }
    }

    private static void withinSeconds() {
        BothCorners x = Due.house("b05050505;b10101010;b01010101;p010;p019;w00;w20;");
        // TIMES 7, 15, 1 of the first; 0, 8, 0 of the other.
        int[][] want = {{-1, -4, -4}, {0, 0, 2}, {1, 1, 2}, {7, 1, 2}, {8, 2, 3}, {22, 2, 3}, {23, 3, 3}, {999, 3, 3}, {1000, -6, -6}};
        for (int[] a : want) {
            D.due("within " + a[0], x.inTime(0, a[0]), a[1]);
            D.due("within " + a[0] + " by the other", x.inTime(1, a[0]), a[2]);
        }
    }

    private static void taughtSkill() {
        BothCorners x = Due.house("b10101010;p018;w00;");
        D.due("8 becomes 9", x.teach(), 0);
        x.skill(0, 9);
        D.due("9 at most", x.teach(), -9);
        BothCorners y = Due.house("b10101010;b10101010;p019;p018;w00;");
        D.due("the one who is not at 9", y.teach(), 1);
        y.skill(1, 9);
        D.due("both at 9", y.teach(), -9);
        BothCorners z = Due.house("b10101010;b10101010;p015;p015;w00;");
        D.due("no one alone makes it less", z.teach(), -9);
        D.due("SKILL stays", z.personOf(0, 1), 5);
    }

    // ---- Corners

    private static void turnsNumbers() {
        for (int turn = -1; turn <= 4; turn++) {
            BothCorners x = new BothCorners();
            D.due("turn " + turn, x.turn(turn), turn < 0 || turn > 3 ? -2 : 0);
            D.due("to be TAKEN BACK", x.count(7), turn < 0 || turn > 3 ? 0 : 1);
            for (int other = -1; other <= 4; other++) {
                boolean refused = turn < 0 || turn > 3 || other < 0 || other > 3;
                boolean same = (turn == 2) == (other == 2);
                D.due("commute " + turn + " " + other, x.commute(turn, other), refused ? -2 : same ? 1 : 0);
            }
        }
        int[] ways = {-4, 1, 5, 12, 16, 16, 16, 16, 16, 16, -6};
        for (int n = -1; n <= 9; n++) {
            D.due("ways to lie by " + n, new BothCorners().waysToLie(n), ways[n + 1]);
        }
    }

    private static void rowsOfTurns() {
        for (int number = 0; number <= 5; number++) {
            BothCorners x = new BothCorners();
            Due.row(x, 3, 3, number);
            D.due("order with " + number, x.orderOf(), number > 3 ? -3 : number == 2 ? 4 : 2);
            D.due("lands with " + number, x.lands(0), number > 3 ? -3 : new int[] {2, 1, 1, 1}[number]);
            D.due("no corner goes ahead", x.lands(4), -1);
            D.due("the ROW stays", x.count(6), 3);
        }
        // 2 and 3 twice leave each where it was.
        BothCorners y = new BothCorners();
        Due.row(y, 2, 3, 2, 3, 2, 3, 2, 3, 2, 3, 2);
        int[] eleven = {1, 0, 3, 2};
        for (int corner = 0; corner < 4; corner++) {
            D.due("eleven TURNS", y.lands(corner), eleven[corner]);
        }
        y.row(3);
        for (int corner = 0; corner < 4; corner++) {
            D.due("twelve TURNS", y.lands(corner), corner);
        }
        D.due("order of eleven", orderOf(2, 3, 2, 3, 2, 3, 2, 3, 2, 3, 2), 2);
        D.due("order of twelve", orderOf(2, 3, 2, 3, 2, 3, 2, 3, 2, 3, 2, 3), 1);
        D.due("order of none", orderOf(), 1);
    }

    private static int orderOf(int... turns) {
        BothCorners x = new BothCorners();
        Due.row(x, turns);
        return x.orderOf();
    }

    private static void reached() {
        BothCorners x = new BothCorners();
        Due.row(x, 0, 1, 2, 3);
        D.due("as it lies", x.reach(), 0);
        x.row(0);
        D.due("five", x.reach(), -3);
        Due.row(x, 0, 1, 2);
        D.due("three", x.reach(), -3);
        Due.row(x, 0, 1, 2, 4);
        D.due("no corner", x.reach(), -3);
        Due.row(x, 0, 1, 2, 2);
        D.due("one twice", x.reach(), -3);
        Due.row(x, 0, 2, 1, 3);
        D.due("three TURNS", x.reach(), 2);
        Due.row(x, 1, 0, 2, 3);
        D.due("never", x.reach(), -9);
        for (int code = 0; code < 625; code++) {
            int[] row = {code % 5, code / 5 % 5, code / 25 % 5, code / 125};
            Due.row(x, row);
            boolean each = (1 << row[0] | 1 << row[1] | 1 << row[2] | 1 << row[3]) == 15;
            D.due("each corner once " + code, x.reach() == -3 ? 0 : 1, each ? 1 : 0);
            x = code % 50 == 49 ? new BothCorners() : x;
        }
        int[][] noCorners = {{32, 1, 2, 3}, {0, 33, 2, 3}, {0, 1, 2, 35}, {64, 65, 66, 67}, {96, 97, 98, 99}};
        for (int[] row : noCorners) {
            Due.row(x, row);
            D.due("no corner " + row[3], x.reach(), -3);
        }
        int most = 0;
        for (int turns = 0; turns < 5 * 64; turns++) {
            BothCorners y = new BothCorners();
            for (int i = 0; i < turns / 64; i++) {
                y.turn(turns >> 2 * i & 3);
            }
            Due.row(y, 0, 1, 2, 3);
            most = Math.max(most, y.reach());
            D.due("set right is reached", y.reach(), y.right(-1));
        }
        D.due("the farthest", most, 3);
    }

    // ---- The row, mornings by lot, counts

    private static void rowNumbers() {
        int[][] want = {{Integer.MIN_VALUE, -4}, {-1, -4}, {0, 1}, {99, 1}, {100, -6}, {Integer.MAX_VALUE, -6}};
        for (int[] a : want) {
            D.due("row " + a[0], new BothCorners().row(a[0]), a[1]);
        }
    }

    private static void toldTimes() {
        String[] beds = {"b02022411;", "b01012410;", "b02012411;", "b02022412;"};
        for (int i = 0; i < beds.length; i++) {
            BothCorners x = Due.house(beds[i] + "p010;w00;");
            int time = 97 + i;
            D.due("TIME", x.takes(0, 0, 0, 3), time);
            for (int told = 96; told <= 99; told++) {
                Due.row(x, told);
                D.due(told + " for " + time, x.judge(0, 0), told == Math.min(99, time) ? -9 : 0);
                D.due("the ROW has none", x.count(6), 0);
            }
        }
    }

    private static void morningsByLot() {
        BothCorners x = Due.house("b10101010;b10101010;p010;w00;");
        int[][] want = {{Integer.MIN_VALUE, -4, -4}, {0, -4, -4}, {1, 40, 40}, {20, 800, 40}, {21, -6, -6}};
        for (int[] a : want) {
            D.due("mornings " + a[0], x.lots(a[0], 7, 0), a[1]);
            D.due("mornings " + a[0] + ", the greatest", x.lots(a[0], 7, 1), a[2]);
        }
        D.due("what below", x.lots(1, 7, -1), -2);
        D.due("what above", x.lots(1, 7, 2), -2);
    }

    /** What the ROW had before it was cleared is no matter. */
    private static void clearedRow() {
        BothCorners x = Due.house("b10101010;p010;w00;");
        Due.row(x, 99, 98, 97, 96, 95, 94, 93, 92, 91, 90, 89, 88);
        Due.row(x, 0, 1, 2, 3);
        D.due("reach", x.reach(), 0);
        D.due("orderOf", x.orderOf(), 2);
        D.due("lands", x.lands(0), 3);
        Due.row(x, 0);
        D.due("lumpy", x.lumpy(), 1);
        D.due("forged", x.forged(), -9);
        Due.row(x, 20);
        D.due("judge", x.judge(0, 0), -9);
        D.due("judge without a ROW", x.judge(0, 0), -9);
        D.due("lands without a ROW", x.lands(1), 1);
        D.due("clear", x.clear(), 0);
    }

    private static void rangeOfTimes() {
        BothCorners x = Due.house("b01010101;b01010101;p019;p010;w20;");
        D.due("no TIME at all", x.range(0), 0);
        D.due("1 and 1", x.range(1), 0);
        Due.tell(x, "b05050505;");
        D.due("0 and 0 and three quarters of 1", x.range(0), 0);
        D.due("1 and three quarters of 10", x.range(1), 6);
    }

    /** By CREPT of FIGURE f one without ARMS' help and of SKILL s takes 20 - s + 8 f: TIME tells both. */
    private static void draws() {
        BothCorners x = Due.house("b10101010;p010;p011;p012;p013;w10;w11;w12;w13;w14;w15;");
        int[] seeds = {0, 1, -1, 2, 1 << 16, 1 << 30, 12345, -12345, 1103515245, -1103515245,
            Integer.MAX_VALUE, Integer.MAX_VALUE - 1, Integer.MIN_VALUE, Integer.MIN_VALUE + 1};
        for (int seed : seeds) {
            int all = 0;
            int greatest = 0;
            BigInteger z = BigInteger.valueOf(seed);
            for (int n = 1; n <= 20; n++) {
                z = next(z);
                int way = drawn(z, 6);
                z = next(z);
                int time = 20 - drawn(z, 4) + 8 * way;
                all += time;
                greatest = Math.max(greatest, time);
                if (n == 1 || n == 2 || n == 20) {
                    D.due("lots " + n + " of " + seed, x.lots(n, seed, 0), all);
                    D.due("lots " + n + " of " + seed + ", the greatest", x.lots(n, seed, 1), greatest);
                }
            }
        }
    }

    private static BigInteger next(BigInteger z) {
        return z.multiply(BigInteger.valueOf(1103515245)).add(BigInteger.valueOf(12345)).mod(BigInteger.ONE.shiftLeft(32));
    }

    private static int drawn(BigInteger z, int n) {
        return z.clearBit(31).divide(BigInteger.valueOf(65536)).intValue() % n;
    }

    /** The 512th call is promised as the first is. */
    private static void lastCalls() {
        BothCorners x = new BothCorners();
        for (int call = 1; call < 512; call++) {
            x.turn(call % 2 == 0 ? 2 : 4);
        }
        D.due("the 512th call", x.count(12), 256);
        BothCorners y = new BothCorners();
        for (int call = 1; call < 511; call++) {
            y.turn(2);
        }
        D.due("the 511th call", y.back(), 7);
        D.due("the 512th call", y.corner(0, 0), 1);
    }

    private static void counts() {
        BothCorners x = Due.house("b05050505;p010;p010;w00;w00;w00;t23;");
        x.feed('b');
        x.row(1);
        x.row(2);
        x.skill(0, 0);
        x.cover(0, 505);
        int[] want = {1, 2, 3, 2, 1, 1, 2, 2, -9, -9, -9, 0, 0, 0, 0, 0, 0, -9};
        for (int what = -1; what < want.length; what++) {
            D.due("count " + what, x.count(what), what < 0 ? -9 : want[what]);
        }
        x.bedOf(1, 0);
        x.turn(4);
        x.restore();
        x.row(-1);
        x.row(100);
        for (int kind = 1; kind <= 6; kind++) {
            D.due("refusals -" + kind, x.count(10 + kind), kind == 5 ? 0 : 1);
        }
    }
}

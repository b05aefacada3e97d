/** Promises 1 to 13, 53, 55, 57 to 59: what there is, letters, changes, the row, the image, counts. */
public final class TellingTest {
    private static final Due D = new Due("TellingTest");

    public static void main(String[] args) {
        newObject();
        beds();
        people();
        ways();
        skills();
        covers();
        turnsCount();
        takenBack();
        noneLeftToTakeBack();
        feeding();
        houses();
        faultsOfLetters();
        faultsOfStatements();
        rows();
        images();
        refusalsByKind();
        D.end();
    }

    private static void newObject() {
        BothCorners x = new BothCorners();
        int[] want = {0, 0, 0, 4, 0, 0, 0, 0, -9, -9, -9, 0, 0, 0, 0, 0, 0, -9};
        for (int what = 0; what < want.length; what++) {
            D.due("new count(" + what + ")", x.count(what), want[what]);
        }
        D.due("count(-1)", x.count(-1), -9);
        D.due("count(MIN)", x.count(Integer.MIN_VALUE), -9);
        D.due("count(MAX)", x.count(Integer.MAX_VALUE), -9);
        for (int corner = 0; corner < 4; corner++) {
            D.due("new corner " + corner, x.corner(corner, 0), corner);
        }
    }

    private static void beds() {
        BothCorners x = new BothCorners();
        D.due("bedOf without", x.bedOf(0, 0), -1);
        D.due("bed(101, 2424)", x.bed(101, 2424), 0);
        D.due("bed(1203, 405)", x.bed(1203, 405), 1);
        int[][] want = {{1, 1, 24, 24}, {12, 3, 4, 5}};
        for (int bed = 0; bed < 2; bed++) {
            for (int what = 0; what < 4; what++) {
                D.due("bedOf " + bed + " " + what, x.bedOf(bed, what), want[bed][what]);
            }
        }
        D.due("bedOf(2, 9)", x.bedOf(2, 9), -1);
        D.due("bedOf(-1, 0)", x.bedOf(-1, 0), -1);
        D.due("bedOf(0, 4)", x.bedOf(0, 4), -2);
        D.due("bedOf(0, -1)", x.bedOf(0, -1), -2);
        int[] below = {0, -1, 1, 99, 100, 2400, 2500, -101, -2424, Integer.MIN_VALUE};
        for (int told : below) {
            D.due("bed(" + told + ", ok)", x.bed(told, 101), -4);
            D.due("bed(ok, " + told + ")", x.bed(101, told), -4);
            D.due("below goes ahead of above " + told, x.bed(2525, told), -4);
            D.due("below goes ahead of above, the other way " + told, x.bed(told, 2525), -4);
        }
        int[] above = {125, 2501, 2425, 2524, 199, 10101, Integer.MAX_VALUE};
        for (int told : above) {
            D.due("bed(" + told + ", ok)", x.bed(told, 101), -6);
            D.due("bed(ok, " + told + ")", x.bed(101, told), -6);
        }
        D.due("BEDS after refusals", x.count(0), 2);
        for (int bed = 2; bed < 6; bed++) {
            D.due("bed more", x.bed(2424, 101), bed);
        }
        D.due("the seventh", x.bed(101, 101), -6);
        D.due("the seventh, below", x.bed(100, 101), -4);
        D.due("BEDS", x.count(0), 6);
    }

    private static void people() {
        BothCorners x = new BothCorners();
        D.due("personOf without", x.personOf(0, 0), -1);
        D.due("person(1, 0)", x.person(1, 0), 0);
        D.due("person(12, 9)", x.person(12, 9), 1);
        D.due("arms", x.personOf(0, 0), 1);
        D.due("skill", x.personOf(0, 1), 0);
        D.due("arms", x.personOf(1, 0), 12);
        D.due("skill", x.personOf(1, 1), 9);
        D.due("personOf(2, 5)", x.personOf(2, 5), -1);
        D.due("personOf(-1, 0)", x.personOf(-1, 0), -1);
        D.due("personOf(0, 2)", x.personOf(0, 2), -2);
        D.due("personOf(0, -1)", x.personOf(0, -1), -2);
        D.due("person(0, 0)", x.person(0, 0), -4);
        D.due("person(1, -1)", x.person(1, -1), -4);
        D.due("person(13, -1)", x.person(13, -1), -4);
        D.due("person(0, 10)", x.person(0, 10), -4);
        D.due("person(13, 0)", x.person(13, 0), -6);
        D.due("person(1, 10)", x.person(1, 10), -6);
        D.due("person more", x.person(3, 3), 2);
        D.due("person more", x.person(4, 4), 3);
        D.due("the fifth", x.person(5, 5), -6);
        D.due("the fifth, below", x.person(0, 5), -4);
        D.due("PEOPLE", x.count(1), 4);
    }

    private static void ways() {
        BothCorners x = new BothCorners();
        D.due("wayOf without", x.wayOf(0, 0), -1);
        D.due("way(-1, 0)", x.way(-1, 0), -2);
        D.due("way(6, -1)", x.way(6, -1), -2);
        D.due("way(0, -1)", x.way(0, -1), -4);
        D.due("way(0, 10)", x.way(0, 10), -6);
        for (int kind = 0; kind < 6; kind++) {
            D.due("way " + kind, x.way(kind, 9 - kind), kind);
            D.due("KIND", x.wayOf(kind, 0), kind);
            D.due("FIGURE", x.wayOf(kind, 1), 9 - kind);
        }
        D.due("the seventh", x.way(0, 0), -6);
        D.due("the seventh, other", x.way(6, 0), -2);
        D.due("the seventh, below", x.way(5, -1), -4);
        D.due("wayOf(6, 7)", x.wayOf(6, 7), -1);
        D.due("wayOf(-1, 0)", x.wayOf(-1, 0), -1);
        D.due("wayOf(0, 2)", x.wayOf(0, 2), -2);
        D.due("wayOf(0, -1)", x.wayOf(0, -1), -2);
        D.due("WAYS", x.count(2), 6);
    }

    private static void skills() {
        BothCorners x = Due.house("p044;p053;");
        D.due("skill(2, -1)", x.skill(2, -1), -1);
        D.due("skill(-1, 1)", x.skill(-1, 1), -1);
        D.due("skill(0, -1)", x.skill(0, -1), -4);
        D.due("skill(0, 10)", x.skill(0, 10), -6);
        D.due("nothing to take back", x.count(7), 0);
        D.due("skill(0, 9)", x.skill(0, 9), 4);
        D.due("skill(0, 0)", x.skill(0, 0), 9);
        D.due("skill(1, 3)", x.skill(1, 3), 3);
        D.due("skill is", x.personOf(0, 1), 0);
        D.due("all stay as they were, too", x.count(7), 3);
    }

    private static void covers() {
        BothCorners x = Due.house("b0102030b;");
        D.due("a FAULT leaves none", x.count(0), 0);
        Due.tell(x, "b01020304;");
        D.due("cover(1, 0)", x.cover(1, 0), -1);
        D.due("cover(-1, 101)", x.cover(-1, 101), -1);
        D.due("cover(0, 2500)", x.cover(0, 2500), -4);
        D.due("cover(0, 99)", x.cover(0, 99), -4);
        D.due("cover(0, -101)", x.cover(0, -101), -4);
        D.due("cover(0, 2501)", x.cover(0, 2501), -6);
        D.due("cover(0, 125)", x.cover(0, 125), -6);
        D.due("cover(0, 2401)", x.cover(0, 2401), 304);
        D.due("cover(0, 124)", x.cover(0, 124), 2401);
        D.due("LENGTH", x.bedOf(0, 2), 1);
        D.due("BREADTH", x.bedOf(0, 3), 24);
        D.due("the QUILT stays", x.bedOf(0, 0), 1);
        D.due("the QUILT stays", x.bedOf(0, 1), 2);
        D.due("two to take back", x.count(7), 2);
    }

    private static void turnsCount() {
        BothCorners x = new BothCorners();
        D.due("turn(-1)", x.turn(-1), -2);
        D.due("turn(4)", x.turn(4), -2);
        D.due("turn(0)", x.turn(0), 0);
        D.due("turn(0)", x.turn(0), 4);
        D.due("turn(2)", x.turn(2), 0);
        D.due("turn(1)", x.turn(1), 2);
        D.due("own", x.count(3), 2);
        D.due("right side out", x.count(4), 0);
        D.due("turn(3)", x.turn(3), 0);
        D.due("inside out", x.count(4), 1);
        D.due("refused turns leave nothing", x.count(7), 5);
    }

    private static void takenBack() {
        BothCorners x = Due.house("b20142014;b10111213;p044;p055;w00;");
        D.due("nothing to take back", x.back(), -3);
        x.cover(1, 1415);
        x.skill(1, 7);
        x.turn(3);
        D.due("cover again", x.cover(1, 203), 1415);
        D.due("back 1", x.back(), 3);
        D.due("cover 1 as before", 100 * x.bedOf(1, 2) + x.bedOf(1, 3), 1415);
        D.due("back 2", x.back(), 2);
        D.due("right side out again", x.count(4), 0);
        D.due("corners again", x.count(3), 4);
        D.due("back 3", x.back(), 1);
        D.due("skill again", x.personOf(1, 1), 5);
        D.due("the other's stays", x.personOf(0, 1), 4);
        D.due("back 4", x.back(), 0);
        D.due("cover 1 at first", 100 * x.bedOf(1, 2) + x.bedOf(1, 3), 1213);
        D.due("cover 0 all along", 100 * x.bedOf(0, 2) + x.bedOf(0, 3), 2014);
        D.due("back 5", x.back(), -3);
        for (int v = 0; v < 10; v++) {
            x.skill(0, v);
        }
        D.due("8 at most", x.count(7), 8);
        for (int left = 7; left >= 0; left--) {
            D.due("back to " + left, x.back(), left);
            D.due("skill then", x.personOf(0, 1), left + 1);
        }
        D.due("older ones no more", x.back(), -3);
        D.due("what is older stays", x.personOf(0, 1), 1);
        x.turn(2);
        x.turn(2);
        x.back();
        D.due("turned once", x.corner(0, 0), 1);
    }

    private static void noneLeftToTakeBack() {
        BothCorners x = Due.house("b20142014;p044;");
        x.image();
        x.turn(0);
        D.due("refused bed", x.bed(0, 0), -4);
        D.due("refused person", x.person(0, 0), -4);
        D.due("refused way", x.way(0, -1), -4);
        D.due("a HOUSE with a FAULT", Due.tell(x, "p000;"), -2000);
        D.due("an image", x.image(), 1);
        x.row(3);
        x.clear();
        D.due("all that leaves it", x.count(7), 1);
        x.bed(101, 101);
        D.due("bed()", x.count(7), 0);
        x.turn(0);
        x.person(1, 1);
        D.due("person()", x.count(7), 0);
        x.turn(0);
        x.way(1, 1);
        D.due("way()", x.count(7), 0);
        x.turn(0);
        Due.tell(x, "t0;");
        D.due("a HOUSE", x.count(7), 0);
        x.turn(0);
        x.restore();
        D.due("restore()", x.count(7), 0);
        BothCorners y = new BothCorners();
        y.turn(0);
        D.due("refused restore", y.restore(), -3);
        D.due("refused restore leaves it", y.count(7), 1);
    }

    private static void feeding() {
        BothCorners x = new BothCorners();
        D.due("feed(-1)", x.feed(-1), -4);
        D.due("feed(256)", x.feed(256), -6);
        D.due("feed(0)", x.feed(0), 1);
        D.due("feed(255)", x.feed(255), 2);
        for (int i = 3; i <= 96; i++) {
            D.due("feed " + i, x.feed('b'), i);
        }
        D.due("the 97th", x.feed('b'), -6);
        D.due("the 97th, below", x.feed(-1), -4);
        D.due("letters", x.count(5), 96);
        D.due("a FAULT at once", x.house(), -1000);
        D.due("no letters more", x.count(5), 0);
        D.due("-4 counted", x.count(14), 2);
        D.due("-6 counted", x.count(16), 2);
        D.due("a FAULT is not counted", x.count(11) + x.count(12) + x.count(13), 0);
    }

    private static void houses() {
        BothCorners x = new BothCorners();
        D.due("a HOUSE", Due.tell(x, "b20140305;p129;w59;t0123;b01020304;"), 5);
        D.due("letters gone", x.count(5), 0);
        D.due("BEDS", x.count(0), 2);
        D.due("PEOPLE", x.count(1), 1);
        D.due("WAYS", x.count(2), 1);
        int[] bed = {20, 14, 3, 5};
        for (int what = 0; what < 4; what++) {
            D.due("bed " + what, x.bedOf(0, what), bed[what]);
        }
        D.due("arms", x.personOf(0, 0), 12);
        D.due("skill", x.personOf(0, 1), 9);
        D.due("kind", x.wayOf(0, 0), 5);
        D.due("figure", x.wayOf(0, 1), 9);
        // 0: 2 3 0 1 at the places 0 1 2 3; 1: 3 2 1 0; 2: 1 3 0 2; 3: 3 1 2 0
        D.due("TURNS done", x.corner(0, 1), 3);
        D.due("TURNS done", x.corner(1, 1), 1);
        D.due("TURNS done", x.corner(2, 1), 2);
        D.due("TURNS done", x.corner(3, 1), 0);
        D.due("inside out", x.corner(0, 2), 1);
        D.due("more of it", Due.tell(x, "t3;"), 1);
        D.due("right side out", x.corner(0, 2), 0);
        D.due("9 TURNS", Due.tell(x, "t333333333;"), 1);
        D.due("an odd number of times", x.corner(0, 2), 1);
        D.due("96 letters", Due.tell(new BothCorners(), text96()), 32);
        BothCorners y = new BothCorners();
        y.bed(101, 202);
        y.turn(0);
        D.due("behind what was there", Due.tell(y, "p010;b03030303;"), 2);
        D.due("BEDS", y.count(0), 2);
        D.due("turned still", y.count(3), 0);
        y.skill(0, 7);
        D.due("a FAULT", Due.tell(y, "b01010101;w00;p000;"), -2014);
        D.due("behind a FAULT", Due.tell(y, "t0;"), 1);
        D.due("nothing of the FAULT", 10 * y.count(0) + y.count(2), 20);
        D.due("skill stays", y.personOf(0, 1), 7);
        D.due("right again", y.count(3), 4);
    }

    private static String text96() {
        return "t0;".repeat(32);
    }

    private static void fault(String text, int want) {
        BothCorners x = Due.house("b01010101;");
        x.turn(0);
        D.due("house(" + text + ")", Due.tell(x, text), want);
        D.due("nothing comes of it", 10000 * x.count(0) + 1000 * x.count(1) + 100 * x.count(2)
                + 10 * x.count(3) + x.count(5), 10000);
        D.due("still to be taken back", x.count(7), 1);
        int refusals = 0;
        for (int kind = 11; kind <= 16; kind++) {
            refusals += x.count(kind);
        }
        D.due("a FAULT is no REFUSAL", refusals, 0);
    }

    private static void faultsOfLetters() {
        fault("", -1000);
        fault(";", -1000);
        fault("x", -1000);
        fault("B", -1000);
        fault("0", -1000);
        fault("b", -1001);
        fault("b;", -1001);
        fault("b2014201;", -1008);
        fault("b20142014", -1009);
        fault("b201420145", -1009);
        fault("b2014 2014;", -1005);
        fault("b20142014;;", -1010);
        fault("b20142014;b", -1011);
        fault("p", -1001);
        fault("p12;", -1003);
        fault("p1234;", -1004);
        fault("p129", -1004);
        fault("w0;", -1002);
        fault("w000;", -1003);
        fault("w00", -1003);
        fault("wa0;", -1001);
        fault("w/0;", -1001);
        fault("w:0;", -1001);
        fault("t", -1001);
        fault("t;", -1001);
        fault("t0", -1002);
        fault("t0x;", -1002);
        fault("t0123012301;", -1010);
        fault("t012301230", -1010);
        // Letters go ahead of numbers, wherever they are.
        fault("b00000000;x", -1010);
        fault("p999;w99;t9;t", -1013);
        fault("t0;".repeat(31) + "p01", -1096);
    }

    private static void faultsOfStatements() {
        fault("b00010101;", -2000);
        fault("b01000101;", -2000);
        fault("b01010001;", -2000);
        fault("b01010100;", -2000);
        fault("b25010101;", -2000);
        fault("b01250101;", -2000);
        fault("b01012501;", -2000);
        fault("b01010125;", -2000);
        fault("p000;", -2000);
        fault("p130;", -2000);
        fault("w60;", -2000);
        fault("w90;", -2000);
        fault("t4;", -2000);
        fault("t0004;", -2000);
        fault("w00;t01;p019;p000;", -2013);
        fault("w60;p000;", -2000);
        // No room: there is a bed already.
        fault("b01010101;".repeat(6), -2050);
        fault("p010;".repeat(5), -2020);
        fault("w00;".repeat(7), -2024);
        BothCorners x = Due.house("b01010101;");
        D.due("room just so", Due.tell(x, "b01010101;".repeat(5) + "p010;".repeat(4) + "w00;".repeat(6)), 15);
        D.due("no bed more", Due.tell(x, "t0;b01010101;"), -2003);
        D.due("no one more", Due.tell(x, "p010;"), -2000);
        D.due("no way more", Due.tell(x, "w00;"), -2000);
        D.due("turns still", Due.tell(x, "t0;"), 1);
        BothCorners y = new BothCorners();
        D.due("least", Due.tell(y, "b01010101;p010;w00;t0;"), 4);
        D.due("greatest", Due.tell(y, "b24242424;p129;w59;t3;"), 4);
    }

    private static void rows() {
        BothCorners x = new BothCorners();
        D.due("clear none", x.clear(), 0);
        D.due("row(-1)", x.row(-1), -4);
        D.due("row(100)", x.row(100), -6);
        for (int i = 1; i <= 12; i++) {
            D.due("row " + i, x.row(i % 2 == 0 ? 0 : 99), i);
        }
        D.due("the 13th", x.row(0), -6);
        D.due("the 13th, below", x.row(-1), -4);
        D.due("in the row", x.count(6), 12);
        D.due("clear", x.clear(), 12);
        D.due("in the row", x.count(6), 0);
        D.due("row again", x.row(5), 1);
    }

    private static void images() {
        BothCorners x = Due.house("b20142014;p044;w12;t2;");
        D.due("no image", x.restore(), -3);
        D.due("image", x.image(), 1);
        x.bed(101, 202);
        x.person(5, 5);
        x.way(3, 3);
        x.cover(0, 303);
        x.skill(0, 9);
        x.turn(3);
        x.row(7);
        x.feed('b');
        D.due("a refusal", x.turn(9), -2);
        D.due("restored", x.restore(), 1);
        D.due("BEDS", x.count(0), 1);
        D.due("PEOPLE", x.count(1), 1);
        D.due("WAYS", x.count(2), 1);
        D.due("cover", 100 * x.bedOf(0, 2) + x.bedOf(0, 3), 2014);
        D.due("skill", x.personOf(0, 1), 4);
        D.due("corner", x.corner(0, 0), 1);
        D.due("right side out", x.count(4), 0);
        D.due("none to take back", x.count(7), 0);
        D.due("the ROW stays", x.count(6), 1);
        D.due("letters stay", x.count(5), 1);
        D.due("REFUSALS stay", x.count(12), 1);
        D.due("REFUSALS stay", x.count(13), 1);
        x.skill(0, 8);
        x.cover(0, 404);
        x.turn(0);
        D.due("restored again", x.restore(), 1);
        D.due("skill again", x.personOf(0, 1), 4);
        D.due("cover again", x.bedOf(0, 2), 20);
        D.due("corner again", x.corner(0, 0), 1);
        x.bed(505, 606);
        D.due("a newer image", x.image(), 2);
        BothCorners y = new BothCorners();
        D.due("an image of nothing", y.image(), 0);
        y.bed(101, 101);
        D.due("nothing restored", y.restore(), 0);
        D.due("no BEDS", y.count(0), 0);
    }

    private static void refusalsByKind() {
        BothCorners x = new BothCorners();
        D.due("nobody", x.bedOf(0, 0), -1);
        D.due("nobody, of onBed", x.onBed(0, 0, 0), 1000000001);
        D.due("nobody, of crosswise", x.crosswise(0, 0), 1000000001);
        D.due("nobody, of cat", x.cat(0, 0, 2, 0), 4000000000000000001L);
        D.due("other", x.turn(4), -2);
        D.due("other", x.turn(5), -2);
        D.due("state", x.back(), -3);
        D.due("below", x.row(-1), -4);
        D.due("room", x.row(100), -6);
        D.due("room", x.feed(300), -6);
        D.due("room", x.waysToLie(9), -6);
        int[] want = {4, 2, 1, 1, 0, 3};
        for (int kind = 1; kind <= 6; kind++) {
            D.due("refusals -" + kind, x.count(10 + kind), want[kind - 1]);
        }
        D.due("count refuses nothing", x.count(99), -9);
        D.due("count refuses nothing", x.count(12), 2);
    }
}

/** Promises 28 to 33, 45, 46: where rolling and turning land each corner. */
public final class CornersTest {
    private static final Due D = new Due("CornersTest");

    public static void main(String[] args) {
        oneTurn();
        corner();
        mixed();
        right();
        lands();
        orderOf();
        waysToLie();
        reach();
        commute();
        byTryingAll();
        D.end();
    }

    private static BothCorners turned(int... turns) {
        BothCorners x = new BothCorners();
        for (int turn : turns) {
            x.turn(turn);
        }
        return x;
    }

    private static void oneTurn() {
        // The corner at each place behind one TURN, and whether it is inside out.
        int[][] want = {{2, 3, 0, 1, 0}, {1, 0, 3, 2, 0}, {2, 0, 3, 1, 0}, {1, 0, 3, 2, 1}};
        for (int turn = 0; turn < 4; turn++) {
            BothCorners x = turned(turn);
            for (int place = 0; place < 4; place++) {
                D.due("turn " + turn + " at " + place, x.corner(place, 1), want[turn][place]);
                D.due("turn " + turn + " lies", x.corner(want[turn][place], 0), place);
            }
            D.due("turn " + turn + " inside out", x.corner(0, 2), want[turn][4]);
        }
        BothCorners x = turned(2, 0);
        int[] then = {3, 1, 2, 0};
        for (int place = 0; place < 4; place++) {
            D.due("2 and 0 at " + place, x.corner(place, 1), then[place]);
        }
    }

    private static void corner() {
        BothCorners x = turned(3);
        int[] any = {0, 1, 2, 3, -1, 4, 99, Integer.MIN_VALUE, Integer.MAX_VALUE};
        for (int corner : any) {
            D.due("right side out of any", new BothCorners().corner(corner, 2), 0);
            D.due("inside out of any", x.corner(corner, 2), 1);
        }
        D.due("any is not refused", x.count(11) + x.count(12), 0);
        int[] noCorners = {-1, 4, Integer.MIN_VALUE, Integer.MAX_VALUE};
        for (int corner : noCorners) {
            D.due("no such corner", x.corner(corner, 0), -1);
            D.due("no such corner", x.corner(corner, 1), -1);
            D.due("no such corner goes ahead", x.corner(corner, 3), -1);
            D.due("no such corner goes ahead", x.corner(corner, -1), -1);
        }
        D.due("no such corner is counted", x.count(11), 16);
        D.due("other", x.corner(0, 3), -2);
        D.due("other", x.corner(3, -1), -2);
        D.due("other is counted", x.count(12), 2);
    }

    private static void mixed() {
        D.due("right", new BothCorners().mixed(), 0);
        D.due("all four", turned(0).mixed(), 4);
        D.due("two", turned(2, 0).mixed(), 2);
        D.due("inside out is no matter", turned(3, 1).mixed(), 0);
    }

    private static void right() {
        D.due("right already", new BothCorners().right(-1), 0);
        D.due("right already", new BothCorners().right(0), -9);
        // Inside out with the corners right: 1 and 3 in either order.
        BothCorners x = turned(3, 1);
        D.due("how many", x.right(-1), 2);
        D.due("the first such", x.right(0), 1);
        D.due("the first such", x.right(1), 3);
        D.due("no third", x.right(2), -9);
        D.due("no such at all", x.right(Integer.MAX_VALUE), -9);
        D.due("below", x.right(-2), -4);
        D.due("below", x.right(Integer.MIN_VALUE), -4);
        D.due("all stays", x.mixed() * 10 + x.corner(0, 2), 1);
    }

    private static void lands() {
        BothCorners x = turned(2);
        for (int corner = 0; corner < 4; corner++) {
            D.due("an empty ROW", x.lands(corner), x.corner(corner, 0));
        }
        Due.row(x, 0, 3);
        BothCorners y = turned(2, 0, 3);
        for (int corner = 0; corner < 4; corner++) {
            D.due("behind 0 and 3", x.lands(corner), y.corner(corner, 0));
        }
        D.due("the ROW stays", x.count(6), 2);
        D.due("all stays", x.corner(0, 0) * 10 + x.corner(0, 2), 10);
        x.row(4);
        D.due("no TURN", x.lands(0), -3);
        D.due("no corner goes ahead", x.lands(4), -1);
        D.due("no corner", x.lands(-1), -1);
        Due.row(x, 99, 0);
        D.due("no TURN at first", x.lands(3), -3);
    }

    private static void orderOf() {
        int[][] rows = {{}, {0}, {1}, {2}, {3}, {0, 1}, {2, 3}, {2, 2}, {3, 3}, {2, 0}, {0, 3}, {1, 3}, {0, 1, 2, 3, 2}};
        int[] want = {1, 2, 2, 4, 2, 2, 2, 2, 1, 2, 2, 2, 2};
        for (int i = 0; i < rows.length; i++) {
            BothCorners x = turned(2, 3);
            Due.row(x, rows[i]);
            D.due("order of row " + i, x.orderOf(), want[i]);
            D.due("the ROW stays", x.count(6), rows[i].length);
        }
        BothCorners x = new BothCorners();
        Due.row(x, 0, 4);
        D.due("no TURN", x.orderOf(), -3);
    }

    private static void waysToLie() {
        BothCorners x = turned(3, 2);
        D.due("none", x.waysToLie(0), 1);
        D.due("one", x.waysToLie(1), 5);
        D.due("two", x.waysToLie(2), 12);
        D.due("all", x.waysToLie(8), 16);
        D.due("below", x.waysToLie(-1), -4);
        D.due("room", x.waysToLie(9), -6);
    }

    private static void reach() {
        BothCorners x = turned(3);
        Due.row(x, 0, 1, 2, 3);
        D.due("right", x.reach(), 1);
        D.due("the ROW stays", x.count(6), 4);
        Due.row(x, 1, 0, 3, 2);
        D.due("so already, but inside out", x.reach(), 2);
        Due.row(x, 0, 1, 3, 2);
        D.due("never so", x.reach(), -9);
        int[][] wrong = {{}, {0, 1, 2}, {0, 1, 2, 3, 0}, {0, 1, 2, 2}, {1, 2, 3, 4}, {0, 0, 0, 0}, {99, 1, 2, 3}};
        for (int[] row : wrong) {
            Due.row(x, row);
            D.due("not the four corners", x.reach(), -3);
        }
    }

    private static void commute() {
        int[][] want = {{1, 1, 0, 1}, {1, 1, 0, 1}, {0, 0, 1, 0}, {1, 1, 0, 1}};
        for (int one = 0; one < 4; one++) {
            for (int other = 0; other < 4; other++) {
                D.due("commute " + one + " " + other, turned(3, 2).commute(one, other), want[one][other]);
            }
        }
        D.due("other", new BothCorners().commute(-1, 0), -2);
        D.due("other", new BothCorners().commute(0, 4), -2);
    }

    /** All rows of up to 5 TURNS, the shorter first and then the lesser, against what was found. */
    private static void byTryingAll() {
        int[][] starts = {{}, {0}, {1}, {2}, {3}, {2, 0}, {0, 2}, {2, 2}, {2, 3}, {3, 2}, {0, 3}, {1, 3}, {2, 0, 3}, {2, 2, 2, 3}};
        for (int[] start : starts) {
            BothCorners x = turned(start);
            int[] nearest = new int[1 << 9];
            java.util.Arrays.fill(nearest, -9);
            String first = null;
            int[] ways = new int[6];
            int seen = 0;
            for (int length = 0; length <= 5; length++) {
                for (int code = 0; code < 1 << 2 * length; code++) {
                    int[] turns = new int[start.length + length];
                    System.arraycopy(start, 0, turns, 0, start.length);
                    StringBuilder text = new StringBuilder();
                    for (int i = 0; i < length; i++) {
                        int turn = code >> 2 * (length - 1 - i) & 3;
                        turns[start.length + i] = turn;
                        text.append(turn);
                    }
                    BothCorners y = turned(turns);
                    int lie = lieOf(y);
                    if (nearest[lie] < 0) {
                        nearest[lie] = length;
                        seen++;
                    }
                    if (first == null && y.mixed() == 0 && y.corner(0, 2) == 0) {
                        first = text.toString();
                    }
                }
                ways[length] = seen;
            }
            D.due("fewest", x.right(-1), first.length());
            for (int i = 0; i < first.length(); i++) {
                D.due("the i-th", x.right(i), first.charAt(i) - '0');
            }
            D.due("no more", x.right(first.length()), -9);
            for (int n = 0; n <= 5; n++) {
                D.due("ways to lie " + n, x.waysToLie(n), ways[n]);
            }
            for (int code = 0; code < 256; code++) {
                int[] row = {code & 3, code >> 2 & 3, code >> 4 & 3, code >> 6};
                if ((1 << row[0] | 1 << row[1] | 1 << row[2] | 1 << row[3]) == 15) {
                    Due.row(x, row);
                    D.due("reach", x.reach(), nearest[code]);
                }
            }
        }
    }

    private static int lieOf(BothCorners x) {
        int lie = x.corner(0, 2) << 8;
        for (int place = 0; place < 4; place++) {
            lie |= x.corner(place, 1) << 2 * place;
        }
        return lie;
    }
}

/** Promises 26, 27, 54: told FOLDS and TIMES looked at. */
public final class RowTest {
    private static final Due D = new Due("RowTest");
    // FOLDS by WAYS 0 to 5: 3 4 2 0 21 1; 9 16 5 3 3 2; 9 16 5 3 7 2.
    private static final String HOUSE =
            "b20102010;b12161412;b08061208;p052;p129;w03;w12;w24;w35;w41;w57;";

    public static void main(String[] args) {
        lumpy();
        forged();
        judge();
        D.end();
    }

    private static void lumpy() {
        BothCorners x = Due.house(HOUSE);
        int[][] rows = {{}, {99, 99, 99}, {3}, {99, 9}, {99, 3}, {99, 3, 3}, {3, 16}, {3, 9, 9}, {21, 3, 7}, {98}};
        int[] want = {63, 63, 1, 1, 24, 8, 0, 1, 16, 0};
        for (int i = 0; i < rows.length; i++) {
            Due.row(x, rows[i]);
            D.due("lumpy " + i, x.lumpy(), want[i]);
            D.due("the ROW stays", x.count(6), rows[i].length);
        }
        Due.row(x, 99, 99, 99, 99);
        D.due("more than BEDS", x.lumpy(), -3);
        D.due("the ROW stays", x.count(6), 4);
        BothCorners y = Due.house("b01010101;");
        Due.row(y, 99);
        D.due("no ways", y.lumpy(), 0);
    }

    private static void forged() {
        BothCorners x = Due.house(HOUSE);
        int[][] rows = {{}, {99, 99, 99}, {3, 16, 7}, {5}, {3, 4}, {21, 2, 21}, {99, 99, 8}};
        int[] want = {-9, -9, -9, 0, 1, 2, 2};
        for (int i = 0; i < rows.length; i++) {
            Due.row(x, rows[i]);
            D.due("forged " + i, x.forged(), want[i]);
            D.due("the ROW stays", x.count(6), rows[i].length);
        }
        Due.row(x, 99, 99, 99, 99);
        D.due("more than BEDS", x.forged(), -3);
        BothCorners y = Due.house("b01010101;");
        Due.row(y, 99);
        D.due("nothing told", y.forged(), -9);
        Due.row(y, 0);
        D.due("no ways", y.forged(), 0);
    }

    private static void judge() {
        BothCorners x = Due.house(HOUSE);
        int[][] rows = {{}, {31}, {31, 35, 21}, {30, 35, 21}, {31, 34, 0}, {31, 35, 99}, {31, 35, 21, 0}};
        int[] want = {-9, -9, -9, 0, 1, 2, 3};
        for (int i = 0; i < rows.length; i++) {
            Due.row(x, rows[i]);
            D.due("judge " + i, x.judge(0, 0), want[i]);
            D.due("the ROW has none", x.count(6), 0);
        }
        // 4 is what a bed of no size at all would take.
        Due.row(x, 31, 35, 21, 4);
        D.due("no such bed, whatever is told", x.judge(0, 0), 3);
        Due.row(x, 31);
        D.due("no such way", x.judge(6, 0), -1);
        D.due("no such way", x.judge(-1, 0), -1);
        D.due("no such one", x.judge(0, 2), -1);
        D.due("the ROW stays", x.count(6), 1);
        // TIMES of 96 to 101: SECONDS 48 and 16 SHAKES or more.
        for (int folds = 16; folds <= 19; folds++) {
            BothCorners y = Due.house("p010;w00;");
            y.bed(2424, 100 * (24 - folds) + 24);
            int time = y.takes(0, 0, 0, 3);
            Due.row(y, Math.min(99, time));
            D.due("99 for 99 or more", y.judge(0, 0), -9);
            Due.row(y, time > 98 ? 98 : 99);
            D.due("not so", y.judge(0, 0), 0);
        }
    }
}

/** Promises 21 to 23: see, who, tells. */
public final class SeenTest {
    /** a and c go round to the left, b to the right for the pie, d straight down. */
    private static final String TEXT = "plain 3 by 3;source 1;farm f at 2 0 day 9 pie 9;caller a bold 0 kind 0;caller b bold 0 kind 9;"
            + "caller c bold 0 kind 0;caller d bold 9 kind 0;goes kind*pie-bold*down;";

    public static void main(String[] args) {
        Check check = new Check();
        seenRows(check);
        refusedRows(check);
        callers(check);
        telling(check);
        nobodyLeft(check);
        check.finish();
    }

    private static int see(CalledRiver river, int... bytes) {
        Check.lay(river, bytes);
        return river.see();
    }

    private static void seenRows(Check check) {
        CalledRiver river = Check.river(TEXT);
        check.due("one row", see(river, 0, 1, 0), 1);
        check.due("has(9)", river.has(9), 1);
        check.due("two rows in their place", see(river, 40, 2, 2, 0, 0, 0), 2);
        check.due("has(9)", river.has(9), 2);
        int[] most = new int[48];
        check.due("16 rows", see(river, most), 16);
        check.due("no act", river.has(10), 0);
        check.due("status(1)", river.status(1), 0);
        river.spring(0);
        check.due("still seen", river.has(9), 16);
        int[] image = Check.picture(river);
        Check.lay(river, image);
        check.due("on", river.on(), true);
        check.due("still seen behind an image", river.has(9), 16);
        Check.lay(river, TEXT);
        river.plain();
        check.due("nothing is seen of a new plain", river.has(9), 0);
    }

    private static void refusedRows(Check check) {
        CalledRiver river = Check.river(TEXT);
        see(river, 1, 2, 0);
        int[][] wrong = {{}, {0}, {0, 1}, {0, 1, 0, 0}, {41, 1, 0}, {255, 1, 0}, {0, 3, 0}, {0, 0, 3}, {0, 255, 0}, {0, 1, 0, 0, 1, 3},
            new int[51], new int[49]};
        for (int[] bytes : wrong) {
            check.due("see of what is none", see(river, bytes), -1);
        }
        check.due("status(1)", river.status(1), wrong.length);
        check.due("all stays", river.has(9), 1);
        check.due("all stays", river.who(), 2);
        CalledRiver none = new CalledRiver();
        check.due("see without a plain", see(none, 0, 0, 0), -1);
        check.due("status(1)", none.status(1), 1);
    }

    private static void callers(Check check) {
        CalledRiver river = Check.river(TEXT);
        check.due("all", river.who(), 15);
        see(river, 0, 1, 0);
        check.due("all by the source", river.who(), 15);
        see(river, 1, 0, 0);
        check.due("a and c", river.who(), 5);
        see(river, 0, 1, 0, 1, 1, 1, 2, 1, 2);
        check.due("d", river.who(), 8);
        see(river, 1, 1, 1, 1, 0, 0);
        check.due("nobody is in two places", river.who(), 0);
        see(river, 3, 1, 2);
        check.due("d's way is over", river.who(), 0);
        see(river, 5, 2, 0);
        check.due("a and c at last", river.who(), 5);
        river.bake(0, 0);
        check.due("b goes like them now", river.who(), 7);
        river.stone(1, 0, 1);
        check.due("without a way", river.who(), 0);
        CalledRiver noWay = Check.river(TEXT + "stone 1 0;");
        check.due("all, as nothing is seen", noWay.who(), 15);
        check.due("without callers", Check.river("plain 2 by 2;").who(), 0);
    }

    private static void telling(Check check) {
        CalledRiver river = Check.river(TEXT);
        check.due("step 1 tells", river.tells(0), 1);
        check.due("a and c are left at the most", river.tells(1), 2);
        see(river, 1, 0, 0);
        check.due("nothing tells a and c apart", river.tells(0), 0);
        check.due("both are left", river.tells(1), 2);
        see(river, 1, 1, 1);
        check.due("d alone", river.tells(0), 0);
        check.due("d alone", river.tells(1), 1);
        for (int what : new int[] {-1, 2, Integer.MAX_VALUE, Integer.MIN_VALUE}) {
            check.due("what that is none", river.tells(what), -1);
        }
        CalledRiver over = Check.river("plain 2 by 3;stone 1 0;caller a bold 0 kind 0;caller b bold 1 kind 0;goes 2*bold*down-down;");
        check.due("they part behind step 1", over.tells(0), 2);
        CalledRiver noWay = Check.river(TEXT + "stone 1 0;");
        check.due("no way tells nothing", noWay.tells(0), 0);
        check.due("all are left", noWay.tells(1), 4);
    }

    private static void nobodyLeft(Check check) {
        CalledRiver river = Check.river(TEXT);
        see(river, 0, 0, 0);
        check.due("nobody", river.tells(0), -1);
        check.due("nobody", river.tells(1), -1);
        check.due("without callers", Check.river("plain 2 by 2;").tells(0), -1);
    }
}

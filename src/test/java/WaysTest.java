/** Promises 12 to 16: way, leads, best, least, dry. */
public final class WaysTest {
    private static final int FAR = Integer.MAX_VALUE;
    private static final int LOW = Integer.MIN_VALUE;

    public static void main(String[] args) {
        Check check = new Check();
        straight(check);
        rowByRow(check);
        heightsAndStones(check);
        sums(check);
        ofSums(check);
        noWay(check);
        wateredByDay(check);
        bestOnes(check);
        leastSteps(check);
        sourceAndHeights(check);
        dryOnes(check);
        check.finish();
    }

    /** The WAY of caller 0, columns and rows by turns. */
    private static void dueWay(Check check, CalledRiver river, int caller, int... want) {
        for (int k = 0; 2 * k < want.length; k++) {
            check.due("column by step " + k, river.way(caller, k, 0), want[2 * k]);
            check.due("row by step " + k, river.way(caller, k, 1), want[2 * k + 1]);
        }
        check.due("behind the way", river.way(caller, want.length / 2, 0), -1);
        check.due("steps", river.leads(caller, 0), want.length / 2 - 1);
    }

    private static void straight(Check check) {
        CalledRiver river = Check.river("plain 3 by 3;caller a bold 0 kind 0;");
        dueWay(check, river, 0, 0, 0, 0, 1, 0, 2);
        check.due("the sea", river.leads(0, 1), 1);
        check.due("no farms", river.leads(0, 2), 0);
        int[][] none = {{0, -1, 0}, {0, 3, 0}, {0, 0, 2}, {0, 0, -1}, {1, 0, 0}, {-1, 0, 0}, {FAR, FAR, FAR}, {0, LOW, 0}, {LOW, 0, 0}};
        for (int[] one : none) {
            check.due("way that is none", river.way(one[0], one[1], one[2]), -1);
        }
        check.due("leads of none", river.leads(1, 0), -1);
        check.due("leads of none", river.leads(-1, 0), -1);
        check.due("leads what 3", river.leads(0, 3), -1);
        check.due("leads what -1", river.leads(0, -1), -1);
        river.stone(0, 1, 1);
        dueWay(check, river, 0, 0, 0, 1, 0, 1, 1, 1, 2);
    }

    /** Of like CELLS the first: above, left, right, below. */
    private static void rowByRow(Check check) {
        CalledRiver river = Check.river("plain 3 by 3;source 1;caller a bold 0 kind 0;goes 7;");
        dueWay(check, river, 0, 1, 0, 0, 0, 0, 1, 1, 1, 2, 1, 2, 0);
        check.due("a lake", river.leads(0, 1), 0);
    }

    private static void heightsAndStones(Check check) {
        String high = "plain 2 by 3;high 0 0 4;high 1 0 4;high 0 1 5;high 1 1 4;high 1 2 5;caller a bold 0 kind 0;";
        CalledRiver river = Check.river(high);
        dueWay(check, river, 0, 0, 0, 1, 0, 1, 1);
        check.due("a lake", river.leads(0, 1), 0);
        river.dig(1, 2);
        dueWay(check, river, 0, 0, 0, 1, 0, 1, 1, 1, 2);
        check.due("the sea", river.leads(0, 1), 1);
        river.dig(0, 1);
        dueWay(check, river, 0, 0, 0, 0, 1, 0, 2);
        river.stone(0, 1, 1);
        river.stone(1, 0, 1);
        dueWay(check, river, 0, 0, 0);
        check.due("a lake at once", river.leads(0, 1), 0);
    }

    /** Every word of goes, told apart by what it makes of a fork: the pie, the wet, the height, down, step, year, him. */
    private static void sums(Check check) {
        String fork = "plain 3 by 2;source 1;high 0 0 1;high 1 0 2;high 2 0 2;high 0 1 0;high 1 1 0;high 2 1 0;"
                + "farm f at 2 0 day 9 pie 5;caller a bold 1 kind 0;caller b bold 0 kind 1;";
        dueFirst(check, fork + "goes pie;", 0, 2, 0);
        dueFirst(check, fork + "goes 0-pie;", 0, 0, 0);
        dueFirst(check, fork + "goes height;", 0, 2, 0);
        dueFirst(check, fork + "goes 0-height;", 0, 1, 1);
        dueFirst(check, fork + "goes down;", 0, 0, 0);
        dueFirst(check, fork + "goes 0-down;", 0, 1, 1);
        dueFirst(check, fork + "goes bold*pie;", 1, 0, 0);
        dueFirst(check, fork + "goes kind*pie;", 1, 2, 0);
        dueFirst(check, fork + "goes step*pie-6*down;", 0, 1, 1);
        dueFirst(check, fork + "goes (step+1)*pie-6*down;", 0, 2, 0);
        dueFirst(check, fork + "goes year*pie;", 0, 0, 0);
        CalledRiver river = Check.river(fork + "goes 0-been*3-height;");
        dueFirstOf(check, river, 0, 1, 1);
        river.spring(0);
        dueFirstOf(check, river, 0, 0, 0);
        river = Check.river(fork + "goes year*pie;bakes pie;");
        river.spring(0);
        dueFirstOf(check, river, 0, 2, 0);
        river = Check.river("plain 3 by 3;source 1;caller a bold 0 kind 0;goes down*(2-step);");
        dueWay(check, river, 0, 1, 0, 0, 0, 0, 1, 0, 2);
    }

    private static void dueFirst(Check check, String text, int caller, int column, int row) {
        dueFirstOf(check, Check.river(text), caller, column, row);
    }

    private static void dueFirstOf(Check check, CalledRiver river, int caller, int column, int row) {
        check.due("column of step 1", river.way(caller, 1, 0), column);
        check.due("row of step 1", river.way(caller, 1, 1), row);
    }

    /** From the left on, quotients not above, by 0, the bounds of a million; down is 1 to the sides, 0 below. */
    private static void ofSums(Check check) {
        String fork = "plain 3 by 2;source 1;caller a bold 0 kind 0;goes ";
        String[] below = {"0-down", "1-2*down", "(0-down)/2", "10-2-down*3", "0-down/1", "8/4/2-down*2", "2-3*down+down",
            "9999*9999-9999*9999*down", "(0-9999*9999)*down", "max(0-down,0-5)", "min(0-down,5)", "5/(1-down)", "9999*9999+9999-down"};
        for (String sum : below) {
            dueFirst(check, fork + sum + ";", 0, 1, 1);
        }
        String[] beside = {"down", "7", "5/down", "down/2", "9999*9999+down", "0-9999*9999-down", "down/0",
            "0-(0-down)/2", "min(down,1)", "max(down,0)", "2*down-1", "9999*1000-9999*999-down*0"};
        for (String sum : beside) {
            dueFirst(check, fork + sum + ";", 0, 0, 0);
        }
    }

    private static void noWay(Check check) {
        CalledRiver river = Check.river("plain 2 by 2;stone 0 0;farm f at 0 0 day 1 pie 1;caller a bold 0 kind 0;");
        check.due("way", river.way(0, 0, 0), -1);
        for (int what = 0; what < 3; what++) {
            check.due("leads", river.leads(0, what), -1);
        }
        check.due("best", river.best(), -1);
        check.due("least of none", river.least(0), -1);
        check.due("least", river.least(1), -1);
        check.due("dry", river.dry(), -1);
        river.stone(0, 0, 0);
        check.due("steps", river.leads(0, 0), 1);
        check.due("least of none", river.least(0), 0);
        check.due("least of the source", river.least(1), 0);
        check.due("dry", river.dry(), 0);
        check.due("watered at the source", river.leads(0, 2), 1);
        check.due("best without callers", Check.river("plain 2 by 2;").best(), -1);
    }

    /** The round of rowByRow comes to 2 1 by STEP 4, to 2 0 by STEP 5. */
    private static void wateredByDay(Check check) {
        String round = "plain 3 by 3;source 1;caller a bold 0 kind 0;goes 7;";
        check.due("by its day", Check.river(round + "farm f at 2 1 day 4 pie 0;").leads(0, 2), 1);
        check.due("a day late", Check.river(round + "farm f at 2 1 day 3 pie 0;").leads(0, 2), 0);
        check.due("bits", Check.river(round + "farm f at 2 2 day 40 pie 0;farm g at 2 1 day 9 pie 0;farm h at 2 0 day 5 pie 0;").leads(0, 2), 6);
    }

    private static void bestOnes(Check check) {
        String text = "plain 3 by 3;source 1;farm a at 0 0 day 9 pie 1;farm b at 2 1 day 9 pie 2;goes kind*pie-down;";
        CalledRiver river = Check.river(text + "caller s bold 0 kind 0;caller k bold 0 kind 9;caller l bold 1 kind 9;");
        check.due("s waters", river.leads(0, 2), 0);
        check.due("k waters", river.leads(1, 2), 1);
        check.due("best", river.best(), 1);
        river.bake(0, 0);
        check.due("k waters b", river.leads(1, 2), 2);
        check.due("best", river.best(), 1);
        river.bake(1, 0);
        check.due("of like ones the first", river.best(), 0);
        CalledRiver lake = Check.river("plain 3 by 3;source 1;caller r bold 1 kind 0;caller s bold 0 kind 0;goes 2*bold*down-down;");
        check.due("the round", lake.leads(0, 0), 5);
        check.due("the shortest", lake.best(), 1);
    }

    private static void leastSteps(Check check) {
        String text = "plain 3 by 3;farm a at 2 0 day 2 pie 0;farm b at 0 2 day ";
        CalledRiver river = Check.river(text + "6 pie 0;farm c at 0 0 day 1 pie 0;");
        check.due("none", river.least(0), 0);
        check.due("a", river.least(1), 2);
        check.due("b", river.least(2), 2);
        check.due("a and b", river.least(3), 6);
        check.due("c", river.least(4), 0);
        check.due("all", river.least(7), 6);
        for (int farms : new int[] {8, -1, LOW, FAR, 64}) {
            check.due("farms that are none", river.least(farms), -1);
        }
        river = Check.river(text + "5 pie 0;");
        check.due("a and b", river.least(3), -1);
        check.due("dry", river.dry(), 1);
        check.due("plain without farms", Check.river("plain 2 by 2;").least(0), 0);
        check.due("plain without farms", Check.river("plain 2 by 2;").least(1), -1);
    }

    /** A LED way goes on behind the last row, and to CELLS where it was. */
    private static void sourceAndHeights(Check check) {
        String text = "plain 2 by 2;farm a at 0 1 day 1 pie 0;farm b at 1 0 day 3 pie 0;";
        check.due("through the last row, or back", Check.river(text).least(3), 3);
        check.due("back", Check.river(text + "stone 1 1;").least(3), 3);
        check.due("not up again", Check.river(text + "stone 1 1;high 0 0 1;").least(3), -1);
        check.due("level", Check.river(text + "stone 1 1;high 0 0 1;high 0 1 1;").least(3), 3);
        check.due("a stone", Check.river(text + "stone 0 1;").least(1), -1);
        check.due("higher", Check.river(text + "high 0 1 1;").least(1), -1);
        check.due("too late", Check.river(text + "high 0 1 1;").dry(), 1);
        check.due("both left out", Check.river(text + "high 0 1 1;high 1 0 1;").dry(), 3);
    }

    private static void dryOnes(Check check) {
        check.due("without farms", Check.river("plain 2 by 2;").dry(), 0);
        String corners = "plain 5 by 5;source 2;farm a at 0 0 day 2 pie 0;farm b at 4 0 day 6 pie 0;farm c at 0 4 day 6 pie 0;";
        CalledRiver river = Check.river(corners);
        check.due("a then b", river.least(3), 6);
        check.due("a then c", river.least(5), 6);
        check.due("b and c", river.least(6), -1);
        check.due("b or c", river.dry(), 2);
        river = Check.river(corners + "farm d at 4 4 day 10 pie 0;");
        check.due("a, b, d", river.least(11), 10);
        check.due("c", river.dry(), 2);
        river.stone(1, 0, 1);
        river.stone(1, 1, 1);
        river.stone(1, 2, 1);
        check.due("a is far", river.least(1), -1);
        check.due("a and b", river.dry(), 3);
        river = Check.river("plain 5 by 2;source 2;farm a at 0 0 day 2 pie 0;farm b at 0 1 day 3 pie 0;farm c at 4 0 day 2 pie 0;");
        check.due("c alone, not a and b", river.dry(), 4);
    }
}

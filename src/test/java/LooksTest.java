/** Promises 6 to 11: has, letter, cell, farm, caller, kept. */
public final class LooksTest {
    private static final int FAR = Integer.MAX_VALUE;
    private static final int LOW = Integer.MIN_VALUE;
    private static final String TEXT = "plain 3 by 2;high 0 0 7;high 2 1 4;stone 1 1;stone 2 0;source 0;"
            + "farm zebra at 2 1 day 12 pie 6;farm a at 0 1 day 1 pie 3;"
            + "caller yellow bold 4 kind 5;caller bo bold 0 kind 9;caller c bold 9 kind 0;bakes pie+1;";

    public static void main(String[] args) {
        Check check = new Check();
        counts(check);
        letters(check);
        cells(check);
        farmsAndCallers(check);
        years(check);
        fortyYears(check);
        check.finish();
    }

    private static void counts(Check check) {
        CalledRiver river = Check.river(TEXT);
        long[] want = {3, 2, 2, 3, 0, 2, 0, 9, 0, 0, 0};
        for (int what = 0; what < want.length; what++) {
            check.due("has " + what, river.has(what), want[what]);
        }
        river.spring(0);
        river.bake(0, 0);
        river.stone(1, 1, 0);
        Check.lay(river, 0, 0, 0, 1, 0, 1);
        river.see();
        long[] then = {3, 2, 2, 3, 1, 1, 0, 4, 1, 2, 3};
        for (int what = 0; what < then.length; what++) {
            check.due("then has " + what, river.has(what), then[what]);
        }
        for (int what : new int[] {-1, 11, FAR, LOW}) {
            check.due("has " + what, river.has(what), -1);
        }
        check.due("source without one", Check.river("plain 4 by 2;").has(6), 0);
    }

    private static void letters(Check check) {
        CalledRiver river = Check.river(TEXT);
        int[] zebra = {26, 5, 2, 18, 1, 0};
        int[] yellow = {25, 5, 12, 12, 15, 23};
        for (int k = 0; k < 6; k++) {
            check.due("letter of zebra " + k, river.letter(0, 0, k), zebra[k]);
            check.due("letter of yellow " + k, river.letter(1, 0, k), yellow[k]);
        }
        check.due("a", river.letter(0, 1, 0), 1);
        check.due("behind a", river.letter(0, 1, 1), 0);
        check.due("c", river.letter(1, 2, 0), 3);
        int[][] none = {{0, 2, 0}, {1, 3, 0}, {2, 0, 0}, {-1, 0, 0}, {0, -1, 0}, {0, 0, -1}, {0, 0, 6}, {1, 0, 6}, {FAR, FAR, FAR},
            {0, LOW, 0}, {0, 0, LOW}};
        for (int[] one : none) {
            check.due("letter that is none", river.letter(one[0], one[1], one[2]), -1);
        }
    }

    private static void cells(Check check) {
        CalledRiver river = Check.river(TEXT);
        check.due("height", river.cell(0, 0, 0), 7);
        check.due("height without", river.cell(1, 0, 0), 0);
        check.due("stone", river.cell(1, 1, 1), 1);
        check.due("no stone", river.cell(0, 0, 1), 0);
        check.due("dry", river.cell(0, 1, 2), 0);
        check.due("farm", river.cell(2, 1, 3), 0);
        check.due("other farm", river.cell(0, 1, 3), 1);
        check.due("no farm", river.cell(0, 0, 3), -1);
        river.spring(0);
        check.due("wet", river.cell(0, 1, 2), 1);
        check.due("still dry", river.cell(1, 0, 2), 0);
        int[][] none = {{3, 0, 0}, {0, 2, 0}, {-1, 0, 0}, {0, -1, 0}, {0, 0, 4}, {0, 0, -1}, {FAR, FAR, 0}, {LOW, 0, 0}, {0, LOW, 1}};
        for (int[] one : none) {
            check.due("cell that is none", river.cell(one[0], one[1], one[2]), -1);
        }
    }

    private static void farmsAndCallers(Check check) {
        CalledRiver river = Check.river(TEXT);
        int[] zebra = {2, 1, 12, 6, -1};
        int[] a = {0, 1, 1, 3, -1};
        for (int what = 0; what < 5; what++) {
            check.due("zebra " + what, river.farm(0, what), zebra[what]);
            check.due("a " + what, river.farm(1, what), a[what]);
        }
        check.due("bold", river.caller(0, 0), 4);
        check.due("kind", river.caller(0, 1), 5);
        check.due("bold", river.caller(2, 0), 9);
        check.due("kind", river.caller(1, 1), 9);
        for (int which : new int[] {-1, 3, FAR, LOW}) {
            check.due("farm that is none", river.farm(which, 0), -1);
            check.due("caller that is none", river.caller(which, 0), -1);
        }
        check.due("farm 2", river.farm(2, 0), -1);
        check.due("caller what 2", river.caller(0, 2), -1);
        check.due("caller what -1", river.caller(0, -1), -1);
        check.due("farm what -1", river.farm(0, -1), -1);
    }

    private static void years(Check check) {
        CalledRiver river = Check.river(TEXT);
        river.spring(2);
        river.bake(0, 0);
        river.spring(1);
        long[][] want = {{0, 2, 1}, {1, 1, 1}};
        for (int k = 0; k < 2; k++) {
            for (int what = 0; what < 3; what++) {
                check.due("kept " + k + " " + what, river.kept(k, what), want[k][what]);
            }
        }
        for (int k : new int[] {-1, 2, 40, FAR, LOW}) {
            check.due("kept that is none", river.kept(k, 0), -1);
        }
        check.due("kept what 3", river.kept(0, 3), -1);
        check.due("kept what -1", river.kept(0, -1), -1);
    }

    /** The last 40 are told; an undone ACT brings the older ones back. */
    private static void fortyYears(Check check) {
        CalledRiver river = Check.river(TEXT);
        river.chance(39);
        check.due("has(8)", river.has(8), 39);
        river.spring(0);
        river.spring(1);
        check.due("has(8)", river.has(8), 40);
        check.due("the oldest told", river.kept(0, 0), 1);
        check.due("the latest told", river.kept(39, 0), 40);
        check.due("its caller", river.kept(39, 1), 1);
        check.due("behind it", river.kept(40, 0), -1);
        river.undo();
        check.due("the oldest told", river.kept(0, 0), 0);
        check.due("the latest told", river.kept(39, 1), 0);
        river.chance(100);
        check.due("the oldest told", river.kept(0, 0), 100);
        river.undo();
        check.due("the oldest told", river.kept(0, 0), 0);
        river.undo();
        river.undo();
        check.due("has(8)", river.has(8), 0);
    }
}

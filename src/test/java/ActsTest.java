/** Promises 24 to 30: spring, bake, dig, stone, chance, undo, seed. */
public final class ActsTest {
    private static final int FAR = Integer.MAX_VALUE;
    private static final int LOW = Integer.MIN_VALUE;
    /** Caller 0 goes down by the left column, caller 1 to the right and then down. */
    private static final String TEXT = "plain 2 by 3;farm a at 0 1 day 1 pie 5;farm b at 1 1 day 1 pie 4;farm c at 0 2 day 2 pie 0;"
            + "caller l bold 0 kind 0;caller r bold 1 kind 0;goes 2*bold*down*(2-step)-down;bakes pie+2*been-3*wet+year;";

    public static void main(String[] args) {
        Check check = new Check();
        springs(check);
        baking(check);
        refusedSprings(check);
        lastYear(check);
        bakes(check);
        digs(check);
        stones(check);
        chances(check);
        refusedChances(check);
        undone(check);
        twentyUndone(check);
        seeds(check);
        check.finish();
    }

    private static void springs(Check check) {
        CalledRiver river = Check.river(TEXT);
        check.due("a and c are watered", river.spring(0), 2);
        check.due("YEAR", river.has(4), 1);
        check.due("a: 5 + 2 - 3 + 0", river.farm(0, 3), 4);
        check.due("b: 4", river.farm(1, 3), 4);
        check.due("c: 0 + 2 - 3 is below 0", river.farm(2, 3), 0);
        check.due("wet", river.cell(0, 0, 2), 1);
        check.due("wet", river.cell(0, 2, 2), 1);
        check.due("dry", river.cell(1, 1, 2), 0);
        check.due("b is a day late", river.spring(1), 0);
        check.due("YEAR", river.has(4), 2);
        check.due("a: 4 + 2 + 1", river.farm(0, 3), 7);
        check.due("b: 4 + 2 + 1", river.farm(1, 3), 7);
        check.due("c: 0 + 2 + 1", river.farm(2, 3), 3);
        check.due("wet twice", river.cell(0, 0, 2), 2);
        check.due("wet once", river.cell(1, 2, 2), 1);
        river.spring(1);
        check.due("b: 7 + 4 + 2 is above 9", river.farm(1, 3), 9);
        check.due("KEPT", river.has(8), 3);
        check.due("KEPT year", river.kept(1, 0), 1);
        check.due("KEPT caller", river.kept(1, 1), 1);
        check.due("KEPT watered", river.kept(0, 2), 2);
    }

    /** Without bakes the pies stay; each FARM by its own pie, all by one YEAR. */
    private static void baking(Check check) {
        CalledRiver river = Check.river("plain 2 by 2;farm a at 0 1 day 1 pie 5;farm b at 1 1 day 1 pie 4;caller l bold 0 kind 0;");
        river.spring(0);
        check.due("pies", river.has(7), 9);
        river = Check.river("plain 2 by 2;farm a at 0 1 day 1 pie 5;farm b at 1 1 day 1 pie 4;caller l bold 0 kind 0;bakes wet*9;");
        river.spring(0);
        check.due("watered", river.farm(0, 3), 9);
        check.due("not watered", river.farm(1, 3), 0);
        river = Check.river("plain 2 by 2;farm a at 0 1 day 1 pie 5;farm b at 1 1 day 1 pie 4;caller l bold 0 kind 0;bakes year;");
        river.spring(0);
        check.due("YEAR 0", river.has(7), 0);
        river.spring(0);
        check.due("YEAR 1", river.has(7), 2);
    }

    private static void refusedSprings(Check check) {
        CalledRiver river = Check.river(TEXT);
        for (int caller : new int[] {2, -1, FAR, LOW}) {
            check.due("spring with none", river.spring(caller), -1);
        }
        river.stone(0, 0, 1);
        check.due("spring without a way", river.spring(0), -1);
        check.due("status(2)", river.status(2), 5);
        check.due("YEAR", river.has(4), 0);
        check.due("ACTS", river.has(10), 1);
    }

    private static CalledRiver inYear(int year) {
        CalledRiver river = Check.river("plain 2 by 2;caller l bold 0 kind 0;");
        Check.lay(river, Check.sealed(year / 256, year % 256, 0, 0, 98, 0, 0, 0, 0, 0, 99, 0, 0, 0, 0));
        if (!river.on()) {
            throw new IllegalStateException("no image of " + year);
        }
        return river;
    }

    private static void lastYear(Check check) {
        CalledRiver river = inYear(998);
        check.due("spring in 998", river.spring(0), 0);
        check.due("YEAR", river.has(4), 999);
        check.due("wet 99", river.cell(0, 0, 2), 99);
        check.due("wet 99 at most", river.cell(0, 1, 2), 99);
        check.due("spring in 999", river.spring(0), -1);
        check.due("chance in 999", river.chance(1), -1);
        check.due("status(2)", river.status(2), 2);
        check.due("chance to 999", inYear(899).chance(100), 0);
        river = inYear(900);
        check.due("chance beyond 999", river.chance(100), -1);
        check.due("YEAR", river.has(4), 900);
        check.due("chance to 999", river.chance(99), 0);
        check.due("YEAR", river.has(4), 999);
    }

    private static void bakes(Check check) {
        CalledRiver river = Check.river(TEXT);
        check.due("bake", river.bake(0, 9), true);
        check.due("pie", river.farm(0, 3), 9);
        check.due("bake", river.bake(0, 0), true);
        check.due("pie", river.farm(0, 3), 0);
        int[][] none = {{0, 0}, {1, 4}, {3, 1}, {-1, 1}, {0, -1}, {0, 10}, {FAR, 1}, {LOW, 1}, {0, FAR}, {0, LOW}};
        for (int[] one : none) {
            check.due("bake that is none", river.bake(one[0], one[1]), false);
        }
        check.due("status(3)", river.status(3), none.length);
        check.due("ACTS", river.has(10), 2);
        check.due("YEAR", river.has(4), 0);
    }

    private static void digs(Check check) {
        CalledRiver river = Check.river(TEXT + "high 1 2 2;high 1 0 9;stone 1 0;");
        check.due("dig", river.dig(1, 2), 1);
        check.due("dig", river.dig(1, 2), 0);
        check.due("height", river.cell(1, 2, 0), 0);
        int[][] none = {{1, 2}, {0, 0}, {1, 0}, {2, 0}, {0, 3}, {-1, 0}, {0, -1}, {FAR, LOW}, {LOW, FAR}};
        for (int[] one : none) {
            check.due("dig that is none", river.dig(one[0], one[1]), -1);
        }
        check.due("status(3)", river.status(3), none.length);
        check.due("ACTS", river.has(10), 2);
        check.due("the stone's height", river.cell(1, 0, 0), 9);
    }

    private static void stones(Check check) {
        CalledRiver river = Check.river(TEXT);
        check.due("lay", river.stone(0, 1, 1), true);
        check.due("stone", river.cell(0, 1, 1), 1);
        check.due("stones", river.has(5), 1);
        check.due("the farm stays", river.cell(0, 1, 3), 0);
        check.due("lay again", river.stone(0, 1, 1), false);
        check.due("take away", river.stone(0, 1, 0), true);
        check.due("stones", river.has(5), 0);
        int[][] none = {{0, 1, 0}, {0, 1, 2}, {0, 1, -1}, {2, 0, 1}, {0, 3, 1}, {-1, 0, 1}, {0, -1, 1}, {FAR, FAR, 1}, {0, 0, FAR}, {0, 0, LOW}};
        for (int[] one : none) {
            check.due("stone that is none", river.stone(one[0], one[1], one[2]), false);
        }
        check.due("status(3)", river.status(3), none.length + 1);
        check.due("ACTS", river.has(10), 2);
    }

    /** By seed 1 the seeds are 1103527590, 377401575, 662824084, 1147902781, 2035015474. */
    private static void chances(Check check) {
        CalledRiver river = Check.river(TEXT);
        check.due("watered in all", river.chance(5), 8);
        check.due("YEAR", river.has(4), 5);
        check.due("ACTS", river.has(10), 1);
        int[] callers = {0, 1, 0, 0, 0};
        int[] watered = {2, 0, 2, 2, 2};
        for (int k = 0; k < 5; k++) {
            check.due("KEPT year", river.kept(k, 0), k);
            check.due("KEPT caller", river.kept(k, 1), callers[k]);
            check.due("KEPT watered", river.kept(k, 2), watered[k]);
        }
        check.due("wet", river.cell(0, 1, 2), 4);
        check.due("undo", river.undo(), true);
        check.due("YEAR", river.has(4), 0);
        check.due("wet", river.cell(0, 1, 2), 0);
        check.due("pies", river.has(7), 9);
        check.due("100 years", river.chance(100) >= 0, true);
        check.due("YEAR", river.has(4), 100);
        check.due("told", river.has(8), 40);
        check.due("wet 99 at most", river.cell(0, 0, 2), 99);
    }

    private static void refusedChances(Check check) {
        CalledRiver river = Check.river(TEXT);
        for (int n : new int[] {0, -1, 101, FAR, LOW}) {
            check.due("chance that can't be", river.chance(n), -1);
        }
        river.stone(0, 0, 1);
        check.due("chance without a way", river.chance(1), -1);
        river.stone(0, 0, 0);
        check.due("status(2)", river.status(2), 6);
        check.due("the seed is as it was", river.chance(2), 2);
        CalledRiver nobody = Check.river("plain 2 by 2;");
        check.due("chance without callers", nobody.chance(1), -1);
        check.due("status(2)", nobody.status(2), 1);
    }

    private static void undone(Check check) {
        CalledRiver river = Check.river(TEXT + "high 0 0 3;");
        int[] first = Check.picture(river);
        river.spring(0);
        int[] second = Check.picture(river);
        river.bake(1, 9);
        river.dig(0, 0);
        river.stone(1, 0, 1);
        check.due("way", river.leads(1, 0), 2);
        river.chance(7);
        check.due("KEPT", river.has(8), 8);
        river.undo();
        check.due("way", river.leads(1, 0), 2);
        for (int k = 0; k < 3; k++) {
            check.due("undo", river.undo(), true);
        }
        duePicture(check, river, second);
        check.due("KEPT", river.has(8), 1);
        check.due("ACTS", river.has(10), 1);
        check.due("way", river.leads(1, 0), 3);
        check.due("undo", river.undo(), true);
        duePicture(check, river, first);
        check.due("KEPT", river.has(8), 0);
        check.due("undo of none", river.undo(), false);
        check.due("undo of none", river.undo(), false);
        check.due("status(4)", river.status(4), 2);
        river.spring(0);
        duePicture(check, river, second);
    }

    private static void duePicture(Check check, CalledRiver river, int[] want) {
        int[] got = Check.picture(river);
        check.due("bytes", got.length, want.length);
        for (int k = 0; k < want.length; k++) {
            check.due("byte " + k, got[k], want[k]);
        }
    }

    private static void twentyUndone(Check check) {
        CalledRiver river = Check.river(TEXT);
        for (int k = 0; k < 25; k++) {
            river.spring(k % 2);
        }
        check.due("ACTS", river.has(10), 20);
        for (int k = 0; k < 20; k++) {
            check.due("undo", river.undo(), true);
            check.due("YEAR", river.has(4), 24 - k);
        }
        check.due("the 21st", river.undo(), false);
        check.due("YEAR", river.has(4), 5);
        check.due("KEPT", river.has(8), 5);
        check.due("a is above 9 by then", river.farm(0, 3), 9);
        river.bake(0, 3);
        river.bake(0, 8);
        check.due("ACTS", river.has(10), 2);
        river.undo();
        check.due("pie", river.farm(0, 3), 3);
    }

    private static void seeds(Check check) {
        CalledRiver river = Check.river(TEXT);
        check.due("seed", river.seed(377401575), true);
        river.chance(3);
        int[] callers = {0, 0, 0};
        for (int k = 0; k < 3; k++) {
            check.due("caller", river.kept(k, 1), callers[k]);
        }
        river.undo();
        check.due("seed", river.seed(1), true);
        river.chance(1);
        river.undo();
        river.chance(1);
        check.due("the seed stays when undone", river.kept(0, 1), 1);
        check.due("seed 0", river.seed(0), true);
        check.due("seed most", river.seed(FAR), true);
        check.due("seed -1", river.seed(-1), false);
        check.due("seed least", river.seed(LOW), false);
        check.due("status(5)", river.status(5), 2);
        check.due("no act", river.has(10), 1);
        river.seed(1);
        river.chance(1);
        Check.lay(river, TEXT);
        river.plain();
        river.chance(1);
        check.due("the seed stays with a new plain", river.kept(0, 1), 1);
    }
}

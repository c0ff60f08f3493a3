import java.math.BigInteger;

/** Terms, part II: WAYS, YEARS, ACTS, what is KEPT, a DRAW. */
final class YearEdges {
    private static final int NONE = CalledRiver.NONE;
    private static final String CALLER = "caller c bold 0 kind 0;";

    private final SentenceCheck check;

    YearEdges(SentenceCheck check) {
        this.check = check;
    }

    void all() {
        nextTo();
        begins();
        goesOn();
        likeOnes();
        ends();
        watered();
        wet();
        pies();
        years();
        atFirst();
        acts();
        twenty();
        kept();
        draws();
    }

    private void nextTo() {
        check.sentence("II", "CELLS next to one another have a side in common.");
        check.way(Check.river("plain 2 by 2;stone 1 0;stone 0 1;" + CALLER), 0, 0, 0);
        check.way(Check.river("plain 2 by 2;source 1;stone 0 0;stone 1 1;" + CALLER), 0, 1, 0);
        // neither end of a row is next to the other end, nor to the row ahead of it or behind it
        check.way(Check.river("plain 3 by 2;source 2;stone 1 0;stone 2 1;" + CALLER), 0, 2, 0);
        check.way(Check.river("plain 3 by 2;source 0;stone 1 0;stone 0 1;" + CALLER), 0, 0, 0);
        check.way(Check.river("plain 3 by 3;stone 1 0;stone 1 1;stone 0 2;goes 1;" + CALLER), 0, 0, 0, 0, 1);
        check.way(Check.river("plain 3 by 3;source 2;stone 1 0;stone 1 1;stone 2 2;goes 1;" + CALLER), 0, 2, 0, 2, 1);
        check.due("no LED way goes aslant", Check.river("plain 2 by 2;stone 1 0;stone 0 1;farm a at 1 1 day 40 pie 0;").least(1), NONE);
        check.due("nor around", Check.river("plain 3 by 2;source 2;stone 1 0;stone 2 1;farm a at 0 1 day 40 pie 0;").least(1), NONE);
        check.due("nor to the same row's other end", Check.river("plain 3 by 2;stone 1 0;stone 0 1;farm a at 2 0 day 40 pie 0;").least(1), NONE);
        // down, right, up, right, down again
        check.way(Check.river("plain 3 by 3;farm a at 0 1 day 9 pie 9;farm b at 1 1 day 9 pie 9;farm d at 1 0 day 9 pie 8;farm f at 2 1 day 9 pie 7;"
                + "stone 0 2;stone 1 2;goes pie;" + CALLER), 0, 0, 0, 0, 1, 1, 1, 1, 0, 2, 0, 2, 1, 2, 2);
    }

    private void begins() {
        check.sentence("II", "A WAY of a CALLER begins at the source (STEP 0; there is none, if that is stone).");
        CalledRiver river = Check.river("plain 3 by 2;source 2;caller a bold 0 kind 0;caller b bold 9 kind 9;");
        check.due("column by STEP 0", river.way(0, 0, 0), 2);
        check.due("row by STEP 0", river.way(0, 0, 1), 0);
        check.due("another's", river.way(1, 0, 0), 2);
        river.stone(2, 0, 1);
        check.due("no WAY", river.way(0, 0, 0), NONE);
        check.due("no STEPS", river.leads(0, 0), NONE);
        river.stone(2, 0, 0);
        check.due("a WAY again", river.leads(0, 0), 1);
        river = Check.river("plain 3 by 2;source 1;stone 1 0;" + CALLER);
        check.due("no WAY in a plain that is told so", river.leads(0, 0), NONE);
        river = Check.river("plain 3 by 2;source 1;stone 0 0;" + CALLER);
        check.due("a stone in the first column is not the source", river.leads(0, 0), 1);
    }

    private void goesOn() {
        check.sentence("II", "it goes on to a CELL next to it that is no stone, not higher than the one it is in, on which it was not yet in this YEAR,"
                + " by which the SUM of goes is most");
        check.way(Check.river("plain 2 by 2;stone 0 1;" + CALLER), 0, 0, 0, 1, 0, 1, 1);
        String high = "plain 2 by 2;high 0 0 4;high 1 0 4;high 0 1 5;high 1 1 ";
        check.way(Check.river(high + "4;" + CALLER), 0, 0, 0, 1, 0, 1, 1);
        check.way(Check.river(high + "5;" + CALLER), 0, 0, 0, 1, 0);
        check.way(Check.river(high + "3;" + CALLER), 0, 0, 0, 1, 0, 1, 1);
        // not higher than the CELL it is in, whatever the source's height is
        check.way(Check.river("plain 2 by 3;high 0 0 9;high 0 1 3;high 0 2 4;high 1 1 4;" + CALLER), 0, 0, 0, 0, 1);
        // what is most draws it back, but it was there
        CalledRiver river = Check.river("plain 2 by 3;goes down;" + CALLER);
        check.way(river, 0, 0, 0, 1, 0, 1, 1, 0, 1, 0, 2);
        river.spring(0);
        check.way(river, 0, 0, 0, 1, 0, 1, 1, 0, 1, 0, 2);
        check.way(Check.river("plain 2 by 2;goes 0-5-down;" + CALLER), 0, 0, 0, 0, 1);
        check.way(Check.river("plain 2 by 2;goes (0-9999)*9999-down;" + CALLER), 0, 0, 0, 1, 0, 1, 1);
    }

    /** The pies of 9 lead it to the CELL in the midst of row 2, from a side each; there all that is left is alike. */
    private void likeOnes() {
        check.sentence("II", "of like ones the first, row by row");
        String fromLeft = "plain 3 by 4;farm f at 0 1 day 9 pie 9;farm g at 0 2 day 9 pie 9;farm h at 1 2 day 9 pie 9;goes pie;" + CALLER;
        dueBehind(fromLeft, 4, 1, 1);
        dueBehind(fromLeft + "stone 1 1;", 4, 2, 2);
        dueBehind(fromLeft + "stone 1 1;stone 2 2;", 4, 1, 3);
        String fromRight = "plain 3 by 4;source 2;farm f at 2 1 day 9 pie 9;farm g at 2 2 day 9 pie 9;farm h at 1 2 day 9 pie 9;goes pie;" + CALLER;
        dueBehind(fromRight, 4, 1, 1);
        dueBehind(fromRight + "stone 1 1;", 4, 0, 2);
        dueBehind(fromRight + "stone 1 1;stone 0 2;", 4, 1, 3);
        String fromAbove = "plain 3 by 4;source 1;farm f at 1 1 day 9 pie 9;farm h at 1 2 day 9 pie 9;goes pie;" + CALLER;
        dueBehind(fromAbove, 3, 0, 2);
        dueBehind(fromAbove + "stone 0 2;", 3, 2, 2);
        dueBehind(fromAbove + "stone 0 2;stone 2 2;", 3, 1, 3);
        dueBehind(fromAbove + "farm i at 1 3 day 9 pie 1;", 3, 1, 3);
    }

    private void dueBehind(String text, int step, int column, int row) {
        CalledRiver river = Check.river(text);
        check.due("the midst's column", river.way(0, step - 1, 0), 1);
        check.due("the midst's row", river.way(0, step - 1, 1), 2);
        check.due("column behind the midst", river.way(0, step, 0), column);
        check.due("row behind the midst", river.way(0, step, 1), row);
    }

    private void ends() {
        check.sentence("II", "It ends where none is (a LAKE), or in the last row (the SEA; there it does not go on).");
        CalledRiver river = Check.river("plain 2 by 2;stone 1 0;stone 0 1;" + CALLER);
        check.due("a LAKE at the source", river.leads(0, 1), 0);
        check.due("no STEPS", river.leads(0, 0), 0);
        river = Check.river("plain 2 by 3;stone 1 1;stone 0 2;" + CALLER);
        check.due("a LAKE ahead of the last row", river.leads(0, 1), 0);
        check.way(river, 0, 0, 0, 0, 1);
        river = Check.river("plain 3 by 2;farm a at 1 1 day 9 pie 9;farm b at 0 1 day 9 pie 9;goes pie;" + CALLER);
        check.due("the SEA", river.leads(0, 1), 1);
        check.way(river, 0, 0, 0, 0, 1);
        river = Check.river("plain 6 by 6;goes 1;" + CALLER);
        check.due("it ends", river.leads(0, 0) < 36, true);
        river = Check.river("plain 2 by 6;source 1;stone 0 0;stone 0 1;stone 0 2;stone 0 3;stone 0 4;" + CALLER);
        check.due("the SEA, the last row alone", river.leads(0, 0), 5);
        check.due("the SEA", river.leads(0, 1), 1);
    }

    private void watered() {
        check.sentence("II", "A FARM is WATERED, if its CELL is on the WAY, by a STEP no greater than its day.");
        String down = "plain 2 by 6;" + CALLER + "farm a at 0 4 day ";
        check.due("a day ahead", Check.river(down + "5 pie 0;").leads(0, 2), 1);
        check.due("on its day", Check.river(down + "4 pie 0;").leads(0, 2), 1);
        check.due("a day late", Check.river(down + "3 pie 0;").leads(0, 2), 0);
        check.due("beside the WAY", Check.river("plain 2 by 6;farm a at 1 4 day 40 pie 9;" + CALLER).leads(0, 2), 0);
        check.due("at the source", Check.river("plain 2 by 6;farm a at 0 0 day 1 pie 0;" + CALLER).leads(0, 2), 1);
        check.due("in the last row", Check.river("plain 2 by 6;farm a at 0 5 day 5 pie 0;" + CALLER).leads(0, 2), 1);
        check.due("on a stone", Check.river("plain 2 by 6;farm a at 0 1 day 40 pie 0;stone 0 1;" + CALLER).leads(0, 2), 0);
        check.due("how many in a YEAR", Check.river(down + "4 pie 0;farm b at 0 2 day 1 pie 0;farm d at 0 5 day 9 pie 0;").spring(0), 2);
    }

    private void wet() {
        check.sentence("II", "all CELLS of his WAY are wet: how often each was is one more (99 at most)");
        CalledRiver river = Check.river("plain 2 by 3;" + CALLER);
        river.spring(0);
        for (int row = 0; row < 3; row++) {
            check.due("wet, row " + row, river.cell(0, row, 2), 1);
            check.due("dry, row " + row, river.cell(1, row, 2), 0);
        }
        river.spring(0);
        check.due("one more", river.cell(0, 2, 2), 2);
        check.due("an image", SentenceCheck.show(river, 0, 2, 0, 0, 97, 0, 0, 0, 0, 0, 98, 0, 0, 99, 0, 0, 99, 0, 0, 99), true);
        int[][] want = {{98, 99, 99}, {99, 99, 99}, {99, 99, 99}};
        for (int[] rows : want) {
            river.spring(0);
            for (int row = 0; row < 3; row++) {
                check.due("wet, row " + row, river.cell(0, row, 2), rows[row]);
            }
        }
        check.due("beside the WAY", river.cell(1, 1, 2), 99);
        river.undo();
        river.undo();
        river.undo();
        check.due("99 as it was", river.cell(0, 2, 2), 99);
        check.due("97 as it was", river.cell(0, 0, 2), 97);
    }

    private void pies() {
        check.sentence("II", "THEN the pie of each FARM is the SUM of bakes, 0 .. 9 (below is 0, above 9), by how often its CELL was wet then.");
        String[] sums = {"0-1", "0-9999*9999", "0", "1", "8", "9", "10", "9999*9999", "been", "been*2-1", "been-1", "been-2", "been+8", "been+9"};
        int[] want = {0, 0, 0, 1, 8, 9, 9, 9, 1, 1, 0, 0, 9, 9};
        for (int k = 0; k < sums.length; k++) {
            CalledRiver river = Check.river("plain 2 by 2;farm a at 0 1 day 1 pie 5;" + CALLER + "bakes " + sums[k] + ";");
            river.spring(0);
            check.due("bakes " + sums[k], river.farm(0, 3), want[k]);
        }
        CalledRiver river = Check.river("plain 2 by 2;farm a at 0 1 day 1 pie 5;farm b at 1 1 day 1 pie 4;" + CALLER + "bakes been-95;");
        SentenceCheck.show(river, 0, 0, 0, 0, 0, 0, 0, 0, 0, 0, 98, 0, 0, 98, 1, 1);
        river.spring(0);
        check.due("98 and one more", river.farm(0, 3), 4);
        check.due("98 as it was", river.farm(1, 3), 3);
        river.spring(0);
        check.due("99 at most", river.farm(0, 3), 4);
        // each FARM's pie by its own, not by another's that is new
        river = Check.river("plain 2 by 2;farm a at 0 1 day 1 pie 1;farm b at 1 1 day 1 pie 3;farm d at 0 0 day 1 pie 9;" + CALLER + "bakes pie*2-wet;");
        river.spring(0);
        check.due("a", river.farm(0, 3), 1);
        check.due("b", river.farm(1, 3), 6);
        check.due("d", river.farm(2, 3), 9);
    }

    /** In this YEAR, the land as it was told: two columns, two rows, no FARM. */
    private static CalledRiver inYear(int year, String callers) {
        CalledRiver river = Check.river("plain 2 by 2;" + callers);
        SentenceCheck.show(river, year / 256, year % 256, 0, 0, 0, 0, 0, 0, 0, 0, 0, 0, 0, 0);
        return river;
    }

    private void years() {
        check.sentence("II", "The YEAR is one more (999 at most).");
        CalledRiver river = Check.river("plain 2 by 2;" + CALLER);
        river.spring(0);
        check.due("1", river.has(4), 1);
        river.chance(3);
        check.due("4", river.has(4), 4);
        river = inYear(255, CALLER);
        river.spring(0);
        check.due("256", river.has(4), 256);
        river = inYear(998, CALLER);
        check.due("998", river.has(4), 998);
        check.due("a YEAR more", river.spring(0), 0);
        check.due("999", river.has(4), 999);
        check.due("no YEAR more", river.spring(0), NONE);
        check.due("999", river.has(4), 999);
        river = Check.river("plain 2 by 2;farm a at 0 1 day 1 pie 5;" + CALLER + "bakes year;");
        for (int year = 0; year < 12; year++) {
            river.spring(0);
            check.due("the YEAR of bakes is the one that it was", river.farm(0, 3), Math.min(year, 9));
        }
    }

    private void atFirst() {
        check.sentence("II", "It is YEAR 0 at first, nothing was wet.");
        CalledRiver river = Check.river("plain 6 by 6;" + CALLER);
        check.due("YEAR", river.has(4), 0);
        for (int place = 0; place < 36; place++) {
            check.due("wet " + place, river.cell(place % 6, place / 6, 2), 0);
        }
    }

    private static final String FOR_ACTS = "plain 2 by 3;high 0 0 2;high 1 0 2;farm a at 0 1 day 1 pie 5;" + CALLER + "bakes pie+1;";

    private void acts() {
        check.sentence("II", "ACTS: a YEAR with a CALLER; a FARM's pie is another one; a CELL is dug (its height is 1 less); a stone is laid on a CELL,"
                + " or taken away; YEARS by the seed: a DRAW of the CALLERS for each.");
        CalledRiver river = Check.river(FOR_ACTS);
        int[][] before = new int[6][];
        for (int k = 0; k < 6; k++) {
            before[k] = Check.picture(river);
            check.due("ACTS that can be undone", river.has(10), k);
            check.due("an ACT", act(river, k), true);
        }
        check.due("all of them", river.has(10), 6);
        for (int k = 5; k >= 0; k--) {
            check.due("undone", river.undo(), true);
            check.due("one less", river.has(10), k);
            int[] now = Check.picture(river);
            for (int at = 0; at < now.length; at++) {
                check.due("byte " + at + " ahead of ACT " + k, now[at], before[k][at]);
            }
        }
        // what is none
        river.seed(5);
        river.image();
        SentenceCheck.see(river, 0, 0, 0);
        Check.lay(river, "often all");
        river.ask();
        river.spring(1);
        river.bake(0, 5);
        river.dig(0, 1);
        river.stone(0, 0, 0);
        river.chance(0);
        river.best();
        river.bid(0, 0);
        river.rest(0);
        check.due("no ACT", river.has(10), 0);
    }

    private static boolean act(CalledRiver river, int k) {
        switch (k) {
            case 0: return river.spring(0) == 1;
            case 1: return river.bake(0, 2);
            case 2: return river.dig(0, 0) == 1 && river.cell(0, 0, 0) == 1;
            case 3: return river.stone(1, 1, 1);
            case 4: return river.stone(1, 1, 0);
            default: return river.chance(7) == 7;
        }
    }

    private void twenty() {
        check.sentence("II", "The last 20 can be undone.");
        for (int acts : new int[] {19, 20, 21, 45}) {
            CalledRiver river = Check.river(FOR_ACTS);
            for (int k = 0; k < acts; k++) {
                river.bake(0, k % 2 == 0 ? 1 + k % 9 : 0);
            }
            int undone = Math.min(acts, 20);
            check.due("ACTS that can be undone of " + acts, river.has(10), undone);
            for (int k = 0; k < undone; k++) {
                check.due("undone", river.undo(), true);
                int left = acts - 1 - k;
                int pie = left == 0 ? 5 : (left - 1) % 2 == 0 ? 1 + (left - 1) % 9 : 0;
                check.due("the pie ahead of it", river.farm(0, 3), pie);
            }
            check.due("no more", river.undo(), false);
            check.due("none", river.has(10), 0);
        }
        CalledRiver river = Check.river(FOR_ACTS);
        for (int k = 0; k < 20; k++) {
            river.chance(2);
        }
        river.undo();
        river.spring(0);
        river.spring(0);
        check.due("twenty again", river.has(10), 20);
        for (int k = 0; k < 20; k++) {
            river.undo();
        }
        check.due("the oldest one is gone", river.has(4), 2);
        check.due("no more", river.undo(), false);
    }

    private void kept() {
        check.sentence("II", "KEPT is each YEAR: its number, CALLER, how many FARMS were WATERED; the last 40 are told.");
        String text = "plain 2 by 2;farm a at 0 1 day 1 pie 5;caller l bold 0 kind 0;caller r bold 1 kind 0;goes down*(2*bold-1);";
        for (int years : new int[] {1, 39, 40, 41, 85}) {
            CalledRiver river = Check.river(text);
            for (int k = 0; k < years; k++) {
                river.spring(k % 3 == 0 ? 1 : 0);
            }
            int told = Math.min(years, 40);
            check.due("told of " + years, river.has(8), told);
            for (int k = 0; k < told; k++) {
                int year = years - told + k;
                check.due("number", river.kept(k, 0), year);
                check.due("CALLER", river.kept(k, 1), year % 3 == 0 ? 1 : 0);
                check.due("WATERED", river.kept(k, 2), year % 3 == 0 ? 0 : 1);
            }
            check.due("behind them", river.kept(told, 0), NONE);
        }
        CalledRiver river = inYear(998, CALLER);
        river.spring(0);
        check.due("the last YEAR's number", river.kept(0, 0), 998);
        river = Check.river(text);
        river.chance(100);
        check.due("by the seed, too", river.kept(0, 0), 60);
        check.due("by the seed, too", river.kept(39, 0), 99);
        river.bake(0, 1);
        river.stone(1, 0, 1);
        check.due("no other ACT", river.has(8), 40);
        check.due("no other ACT", river.kept(39, 0), 99);
        river.spring(0);
        for (int k = 0; k < 4; k++) {
            river.undo();
        }
        check.due("nothing, all being undone", river.has(8), 0);
    }

    private void draws() {
        check.sentence("II", "A DRAW of m: x (the seed) becomes (1103515245 x + 12345) mod 2 to the 31; floor(x / 64) mod m.");
        for (int m = 1; m <= 5; m++) {
            for (int seed : new int[] {0, 1, 2, 63, 64, 12345, 1 << 30, Integer.MAX_VALUE - 1, Integer.MAX_VALUE}) {
                CalledRiver river = Check.river(TextEdges.callers(m));
                check.due("seed", river.seed(seed), true);
                check.due("chance", river.chance(40), 0);
                BigInteger x = BigInteger.valueOf(seed);
                for (int k = 0; k < 40; k++) {
                    x = x.multiply(BigInteger.valueOf(1103515245)).add(BigInteger.valueOf(12345)).mod(BigInteger.ONE.shiftLeft(31));
                    check.due("DRAW " + k + " of " + m + " by seed " + seed, river.kept(k, 1), x.shiftRight(6).mod(BigInteger.valueOf(m)).intValue());
                }
            }
        }
    }
}

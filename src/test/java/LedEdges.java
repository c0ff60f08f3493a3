/** Terms, part III: BEST, LED ways, the LEAST, DRY, a BID, at REST, PART and MEET, a MILL, SEEN, TELLING. */
final class LedEdges {
    private static final int NONE = CalledRiver.NONE;
    private static final String CALLER = "caller c bold 0 kind 0;";
    /** By bold 0 straight down in 2 STEPS; by bold 1 round by the left, through the midst by STEP 3, to a LAKE in 2 0 by STEP 5. */
    private static final String ROUND = "plain 3 by 3;source 1;goes 2*bold*down-down;";
    private static final String STRAIGHT_ONE = "caller s bold 0 kind 0;";
    private static final String ROUND_ONE = "caller r bold 1 kind 0;";

    private final SentenceCheck check;

    LedEdges(SentenceCheck check) {
        this.check = check;
    }

    void all() {
        best();
        ledWays();
        fortySteps();
        wateredByLedWays();
        least();
        dry();
        bids();
        rests();
        mostAtRest();
        parts();
        mills();
        seen();
        telling();
    }

    private void best() {
        check.sentence("III", "BEST is the CALLER by whom most FARMS are WATERED; of like ones the one of the shortest WAY, then the first.");
        String midst = ROUND + "farm m at 1 1 day ";
        check.due("most FARMS, by the longer WAY", Check.river(midst + "9 pie 0;farm e at 2 0 day 5 pie 0;" + STRAIGHT_ONE + ROUND_ONE).best(), 1);
        check.due("most FARMS, the first", Check.river(midst + "9 pie 0;farm e at 2 0 day 5 pie 0;" + ROUND_ONE + STRAIGHT_ONE).best(), 0);
        check.due("one of them is late", Check.river(midst + "9 pie 0;farm e at 2 0 day 4 pie 0;" + ROUND_ONE + STRAIGHT_ONE).best(), 1);
        check.due("as many, the shortest", Check.river(midst + "9 pie 0;" + ROUND_ONE + STRAIGHT_ONE).best(), 1);
        check.due("as many though other ones", Check.river(midst + "2 pie 0;farm e at 2 0 day 9 pie 0;" + ROUND_ONE + STRAIGHT_ONE).best(), 1);
        check.due("more, not greater bits", Check.river(ROUND + "farm m at 1 1 day 1 pie 0;farm b at 1 2 day 2 pie 0;farm e at 2 0 day 9 pie 0;"
                + ROUND_ONE + STRAIGHT_ONE).best(), 1);
        check.due("alike, the first", Check.river(midst + "9 pie 0;" + STRAIGHT_ONE + "caller t bold 0 kind 9;").best(), 0);
        check.due("alike, the first of the shortest", Check.river(midst + "9 pie 0;" + ROUND_ONE + STRAIGHT_ONE + "caller t bold 0 kind 9;").best(), 1);
        check.due("without FARMS, the shortest", Check.river(ROUND + ROUND_ONE + STRAIGHT_ONE).best(), 1);
    }

    private void ledWays() {
        check.sentence("III", "A LED way is any row of CELLS from the source on, each next to the one ahead of it, no stone, not higher than it"
                + " (CELLS may be more than once in it)");
        String two = "plain 3 by 2;source 1;farm a at 0 0 day 40 pie 0;farm b at 2 0 day 40 pie 0;";
        check.due("back over the source", Check.river(two + "stone 0 1;stone 1 1;stone 2 1;").least(3), 3);
        check.due("not back to a CELL that is higher", Check.river(two + "stone 0 1;stone 1 1;stone 2 1;high 1 0 1;").least(3), NONE);
        check.due("round by the last row", Check.river(two + "high 1 0 1;").least(3), 5);
        check.due("not to a CELL that is higher", Check.river(two + "high 2 0 1;").least(3), NONE);
        check.due("to one as high", Check.river(two + "high 0 0 1;high 1 0 1;high 2 0 1;").least(3), 3);
        check.due("not to a stone", Check.river(two + "stone 0 0;").least(1), NONE);
        check.due("not over stones", Check.river("plain 3 by 2;stone 1 0;stone 1 1;farm a at 2 0 day 40 pie 0;").least(1), NONE);
        check.due("not from a source that is stone", Check.river(two + "stone 1 0;").least(1), NONE);
        check.due("on behind the last row", Check.river("plain 3 by 2;stone 1 0;farm a at 2 0 day 40 pie 0;").least(1), 4);
    }

    /** One corridor of 22 CELLS, from 0 0 to 5 4, where no two are next to one another but those that follow one another. */
    private static final String CORRIDOR = "plain 6 by 6;stone 0 1;stone 1 1;stone 2 1;stone 3 1;stone 4 1;stone 1 3;stone 2 3;stone 3 3;stone 4 3;stone 5 3;"
            + "stone 1 4;stone 2 4;stone 3 4;stone 4 4;";

    private void fortySteps() {
        check.sentence("III", "of 40 STEPS at most");
        CalledRiver river = Check.river(CORRIDOR + "source 2;farm n at 0 0 day 40 pie 0;farm f at 5 4 day 19 pie 0;");
        check.due("the near end", river.least(1), 2);
        check.due("the far end", river.least(2), 19);
        check.due("the far one, then the near one", river.least(3), 40);
        check.due("nobody is DRY", river.dry(), 0);
        river = Check.river(CORRIDOR + "source 2;farm n at 0 0 day 39 pie 0;farm f at 5 4 day 19 pie 0;");
        check.due("a day too late", river.least(3), NONE);
        check.due("one is DRY", river.dry(), 1);
        river = Check.river(CORRIDOR + "source 1;farm n at 0 0 day 40 pie 0;farm f at 5 4 day 20 pie 0;");
        check.due("it would be 41 STEPS", river.least(3), NONE);
        check.due("one is DRY", river.dry(), 1);
        river = Check.river(CORRIDOR + "source 1;farm n at 0 0 day 40 pie 0;farm f at 5 4 day 22 pie 0;");
        check.due("the near one first", river.least(3), 22);
    }

    private void wateredByLedWays() {
        check.sentence("III", "by it a FARM of told ones is WATERED, if it comes to its CELL by a STEP no greater than its day");
        String far = "plain 4 by 2;farm a at 3 1 day ";
        check.due("on its day", Check.river(far + "4 pie 0;").least(1), 4);
        check.due("a day late", Check.river(far + "3 pie 0;").least(1), NONE);
        String near = "plain 4 by 2;farm a at 3 1 day 4 pie 0;farm b at 0 1 day ";
        check.due("both on their days", Check.river(near + "1 pie 0;").least(3), 4);
        check.due("to come again later does no harm", Check.river("plain 3 by 2;source 1;stone 0 1;stone 1 1;stone 2 1;farm s at 1 0 day 1 pie 0;"
                + "farm a at 0 0 day 1 pie 0;farm b at 2 0 day 3 pie 0;").least(7), 3);
        check.due("FARMS that are not told do not matter", Check.river(far + "3 pie 0;farm b at 0 1 day 1 pie 0;").least(2), 1);
    }

    private void least() {
        check.sentence("III", "The LEAST is the fewest STEPS by which all told FARMS are WATERED.");
        CalledRiver river = Check.river("plain 3 by 3;source 1;farm s at 1 0 day 1 pie 0;farm l at 0 2 day 40 pie 0;"
                + "farm r at 2 2 day 40 pie 0;farm m at 1 1 day 40 pie 0;");
        int[] want = {0, 0, 3, 3, 3, 3, 5, 5, 1, 1, 3, 3, 3, 3, 5, 5};
        for (int farms = 0; farms < want.length; farms++) {
            check.due("least " + farms, river.least(farms), want[farms]);
        }
        river.stone(1, 1, 1);
        check.due("the midst is stone now", river.least(8), NONE);
        check.due("round by the side", river.least(2), 3);
        check.due("round by both sides", river.least(6), 5);
        river.stone(0, 1, 1);
        check.due("by the other side alone", river.least(2), 5);
        river.stone(1, 0, 1);
        check.due("the source is stone now", river.least(0), NONE);
        river.undo();
        check.due("and is not again", river.least(0), 0);
        openPlain(new int[] {5, 0, 5, 5, 0, 5, 0, 1, 2, 0, 5, 3});
        openPlain(new int[] {3, 3, 0, 0, 4, 1, 1, 4, 5, 5, 2, 2});
        openPlain(new int[] {0, 5, 5, 5, 1, 0, 4, 0, 2, 5, 3, 5});
    }

    /** Six FARMS, a column and a row each, in a level plain without stones: by all sets, the best of all orders to come to them. */
    private void openPlain(int[] places) {
        StringBuilder text = new StringBuilder("plain 6 by 6;");
        for (int k = 0; k < 6; k++) {
            text.append("farm f").append((char) ('a' + k)).append(" at ");
            text.append(places[2 * k]).append(' ').append(places[2 * k + 1]).append(" day 40 pie 0;");
        }
        CalledRiver river = Check.river(text.toString());
        for (int farms = 0; farms < 64; farms++) {
            check.due("least " + farms, river.least(farms), shortest(places, farms, 0, 0));
        }
    }

    private static int shortest(int[] places, int farms, int column, int row) {
        int least = farms == 0 ? 0 : 1000;
        for (int k = 0; k < 6; k++) {
            if ((farms >> k & 1) == 1) {
                int there = Math.abs(places[2 * k] - column) + Math.abs(places[2 * k + 1] - row);
                least = Math.min(least, there + shortest(places, farms & ~(1 << k), places[2 * k], places[2 * k + 1]));
            }
        }
        return least;
    }

    private void dry() {
        check.sentence("III", "DRY are the fewest of all FARMS to be left out, so that there is a LED way for all others; of like ones the least bits.");
        check.due("no FARM", Check.river("plain 2 by 2;").dry(), 0);
        check.due("none", Check.river("plain 2 by 2;farm a at 1 0 day 1 pie 0;").dry(), 0);
        check.due("all", Check.river("plain 2 by 2;farm a at 1 0 day 1 pie 0;farm b at 1 1 day 40 pie 0;stone 1 0;stone 1 1;").dry(), 3);
        String sides = "plain 5 by 2;source 2;farm a at 0 0 day 2 pie 0;farm b at 4 0 day 2 pie 0;";
        check.due("either one, the least bits", Check.river(sides).dry(), 1);
        check.due("one, not two with less bits",
                Check.river("plain 5 by 2;source 2;farm a at 0 0 day 2 pie 0;farm b at 1 0 day 1 pie 0;farm d at 4 0 day 2 pie 0;").dry(), 4);
        check.due("two of six", Check.river("plain 5 by 2;source 2;farm a at 3 0 day 1 pie 0;farm b at 1 0 day 1 pie 0;farm d at 4 0 day 2 pie 0;"
                + "farm e at 0 0 day 2 pie 0;farm f at 0 1 day 3 pie 0;farm g at 2 1 day 40 pie 0;").dry(), 5);
        check.due("all six",
                Check.river("plain 6 by 2;source 0;stone 1 0;stone 0 1;farm a at 1 0 day 1 pie 0;farm b at 2 0 day 1 pie 0;farm d at 3 0 day 2 pie 0;"
                + "farm e at 4 0 day 2 pie 0;farm f at 5 0 day 3 pie 0;farm g at 5 1 day 40 pie 0;").dry(), 63);
    }

    private void bids() {
        check.sentence("III", "A BID of a FARM is the least pie (0 .. 9) by which it is WATERED by a CALLER, the others as they are.");
        String beside = "plain 2 by 2;farm a at 1 0 day 1 pie 4;farm b at 0 1 day 1 pie ";
        // a must have as much as b and so much more as goes has against it
        check.due("0", Check.river(beside + "0;goes pie;" + CALLER).bid(0, 0), 0);
        check.due("1", Check.river(beside + "0;goes pie-down;" + CALLER).bid(0, 0), 1);
        check.due("b's pie is as it is", Check.river(beside + "3;goes pie-down;" + CALLER).bid(0, 0), 4);
        check.due("9", Check.river(beside + "9;goes pie;" + CALLER).bid(0, 0), 9);
        check.due("10 would do", Check.river(beside + "9;goes pie-down;" + CALLER).bid(0, 0), NONE);
        check.due("9 against the way down", Check.river(beside + "0;goes pie-9*down;" + CALLER).bid(0, 0), 9);
        check.due("10 against the way down", Check.river(beside + "0;goes pie-10*down;" + CALLER).bid(0, 0), NONE);
        check.due("not its pie as it is, but the least", Check.river(beside + "2;goes pie;" + CALLER).bid(0, 0), 2);
        check.due("less is more", Check.river(beside + "2;goes 0-pie;" + CALLER).bid(0, 0), 0);
        check.due("2 alone will do", Check.river(beside + "2;goes 0-max(pie-2,2-pie);" + CALLER).bid(0, 0), 2);
        check.due("by no pie", Check.river("plain 2 by 2;farm a at 1 0 day 1 pie 4;stone 1 0;" + CALLER).bid(0, 0), NONE);
        check.due("by no pie by its day", Check.river("plain 2 by 3;farm a at 1 1 day 1 pie 4;goes pie;" + CALLER).bid(0, 0), NONE);
        CalledRiver river = Check.river(beside + "3;goes pie-down;" + CALLER);
        river.bid(0, 0);
        check.due("the pies stay", river.farm(0, 3), 4);
        check.due("the WAY stays", river.way(0, 1, 0), 1);
    }

    private void rests() {
        check.sentence("III", "At REST is a set of FARMS that keep their pies, all others having 0, by which no FARM, in it or not, would be better off"
                + " if it alone did otherwise (a FARM is as well off as 10 less its pie if WATERED, 0 less its pie if not)");
        String onWay = "plain 2 by 2;farm a at 0 1 day 1 pie ";
        check.due("watered without a pie", Check.river(onWay + "9;" + CALLER).rest(0), 0);
        check.due("watered without a pie", Check.river(onWay + "1;" + CALLER).rest(0), 0);
        check.due("without one it is as well off in it", Check.river(onWay + "0;" + CALLER).rest(0), 1);
        String beside = "plain 2 by 2;farm a at 1 0 day 1 pie ";
        check.due("its pie is needed", Check.river(beside + "1;goes pie-down;" + CALLER).rest(0), 1);
        check.due("a pie of 9 is worth it", Check.river(beside + "9;goes pie-9*down;" + CALLER).rest(0), 1);
        check.due("a pie of 9 is in vain", Check.river(beside + "9;goes pie-10*down;" + CALLER).rest(0), 0);
        check.due("a pie of 1 is in vain", Check.river(beside + "1;goes pie-2*down;" + CALLER).rest(0), 0);
        check.due("a day late it is in vain", Check.river("plain 2 by 3;farm a at 1 1 day 1 pie 9;goes pie-down;" + CALLER).rest(0), 0);
        // a's 1 outbids nobody; b's 2 outbids a's 1, so b alone is at REST
        String both = "plain 3 by 2;source 1;farm a at 0 0 day 9 pie 1;farm b at 2 0 day 9 pie 2;goes pie-down;" + CALLER;
        check.due("b outbids a", Check.river(both).rest(0), 2);
        check.due("the pies stay", Check.river(both).has(7), 3);
        // without pies a is watered; so b gives one, then a, then b's is in vain, then a's is not needed
        String chase = "plain 3 by 2;source 1;farm a at 0 0 day 3 pie 1;farm b at 2 0 day 3 pie 1;goes pie;" + CALLER;
        check.due("no set", Check.river(chase).rest(0), NONE);
        check.due("no set, as 10 is more than a pie of 9", Check.river(chase.replace("pie 1", "pie 9")).rest(0), NONE);
        // the land is as it is: stones, heights, what was wet, the YEAR
        check.due("a stone", Check.river(beside + "1;stone 1 0;goes pie-down;" + CALLER).rest(0), 0);
        check.due("a height", Check.river(beside + "1;high 1 0 1;goes pie-down;" + CALLER).rest(0), 0);
        CalledRiver river = Check.river(beside + "1;goes pie*year-down;" + CALLER);
        check.due("in vain in YEAR 0", river.rest(0), 0);
        river.spring(0);
        check.due("needed in YEAR 1", river.rest(0), 1);
        river = Check.river(beside + "1;goes pie-down-been*2;" + CALLER);
        check.due("needed where nothing was wet", river.rest(0), 1);
        river.spring(0);
        check.due("in vain where it was", river.rest(0), 0);
    }

    private void mostAtRest() {
        check.sentence("III", "of the most FARMS, of like ones the least bits. Two");
        // behind either side the WAY comes to the other one: either pie waters both, none waters neither
        check.due("a or b, the least bits",
                Check.river("plain 3 by 3;source 1;farm a at 0 0 day 5 pie 1;farm b at 2 0 day 5 pie 1;goes 9*pie+down*(step-3);"
                + CALLER).rest(0), 1);
        check.due("b or a, the least bits",
                Check.river("plain 3 by 3;source 1;farm a at 2 0 day 5 pie 1;farm b at 0 0 day 5 pie 1;goes 9*pie+down*(step-3);"
                + CALLER).rest(0), 1);
        check.due("all that have none", Check.river("plain 3 by 2;source 1;farm a at 0 0 day 9 pie 0;farm b at 2 0 day 9 pie 0;farm d at 1 1 day 1 pie 0;"
                + CALLER).rest(0), 7);
        check.due("all but d", Check.river("plain 3 by 2;source 1;farm a at 0 0 day 9 pie 0;farm b at 2 0 day 9 pie 0;farm d at 1 1 day 1 pie 1;"
                + CALLER).rest(0), 3);
        check.due("no FARM", Check.river("plain 2 by 2;" + CALLER).rest(0), 0);
    }

    private void parts() {
        check.sentence("III", "Two WAYS PART behind the last STEP up to which they are alike, from the source on; they MEET in the first CELL behind that,"
                + " by STEPS of the first one, that is on the other one, too, behind the parting.");
        CalledRiver river = Check.river(ROUND + STRAIGHT_ONE + ROUND_ONE + "caller t bold 0 kind 9;");
        check.due("behind the source", river.parts(0, 1, 0), 0);
        check.due("column of the midst", river.parts(0, 1, 1), 1);
        check.due("row of the midst", river.parts(0, 1, 2), 1);
        check.due("by STEPS of the other", river.parts(1, 0, 2), 1);
        for (int what = 0; what < 3; what++) {
            check.due("alike to the end", river.parts(0, 2, what), NONE);
        }
        // one goes round by the left, one by the right: each one's first CELL is the other's last
        river = Check.river("plain 3 by 3;source 1;farm f at 2 0 day 9 pie 9;caller a bold 0 kind 0;caller b bold 0 kind 9;goes kind*pie;");
        check.due("by STEPS of the first", river.parts(0, 1, 1), 0);
        check.due("by STEPS of the first", river.parts(1, 0, 1), 2);
        check.due("row", river.parts(0, 1, 2), 0);
        // both go down two STEPS, then one turns aside
        river = Check.river("plain 2 by 5;stone 1 0;stone 1 1;caller a bold 0 kind 0;caller b bold 1 kind 0;goes 2*bold*down-down;");
        check.due("behind STEP 2", river.parts(0, 1, 0), 2);
        check.due("column", river.parts(0, 1, 1), 0);
        check.due("row", river.parts(0, 1, 2), 3);
        river.stone(0, 4, 1);
        check.due("behind STEP 2 still", river.parts(0, 1, 0), 2);
        check.due("where it comes to by its own STEPS", river.parts(0, 1, 2), 3);
        check.due("where the other comes to by its own", river.parts(1, 0, 1), 1);
        // from both sides into one LAKE
        river = Check.river("plain 3 by 3;source 1;high 1 0 2;high 0 0 1;high 2 0 1;high 0 1 1;high 2 1 1;high 0 2 9;high 1 2 9;high 2 2 9;"
                + "farm f at 2 0 day 9 pie 9;caller a bold 0 kind 0;caller b bold 0 kind 9;goes height+kind*pie;");
        check.due("behind the source", river.parts(0, 1, 0), 0);
        check.due("in the last CELL of both, column", river.parts(0, 1, 1), 1);
        check.due("row", river.parts(0, 1, 2), 1);
        check.due("by STEPS of the other", river.parts(1, 0, 1), 1);
        river = Check.river("plain 3 by 2;source 1;caller a bold 0 kind 0;caller b bold 1 kind 0;goes 2*bold*down-down;");
        check.due("they PART", river.parts(0, 1, 0), 0);
        check.due("they do not MEET", river.parts(0, 1, 1), NONE);
        check.due("they do not MEET", river.parts(1, 0, 2), NONE);
    }

    private void mills() {
        check.sentence("III", "A MILL is the CELL on most CALLERS' WAYS, not the source; of like ones the first, row by row.");
        CalledRiver river = Check.river(ROUND + STRAIGHT_ONE + ROUND_ONE);
        check.due("the midst's column", river.mill(0), 1);
        check.due("the midst's row", river.mill(1), 1);
        check.due("on both", river.mill(2), 2);
        river = Check.river(ROUND + ROUND_ONE);
        check.due("the first but the source, column", river.mill(0), 0);
        check.due("row", river.mill(1), 0);
        check.due("on one", river.mill(2), 1);
        river = Check.river("plain 2 by 3;" + CALLER);
        check.due("the source is the first of all", river.mill(1), 1);
        river = Check.river(ROUND + STRAIGHT_ONE + ROUND_ONE + "caller t bold 0 kind 1;caller u bold 0 kind 2;caller v bold 0 kind 3;");
        check.due("on five", river.mill(2), 5);
        check.due("the midst", river.mill(1), 1);
        river = Check.river("plain 2 by 2;stone 1 0;stone 0 1;" + CALLER);
        for (int what = 0; what < 3; what++) {
            check.due("the source alone", river.mill(what), NONE);
        }
    }

    private void seen() {
        check.sentence("III",
                "SEEN are rows of STEP (0 .. 40), column, row: CALLERS whose WAY is there by that STEP in this YEAR (all, if nothing is SEEN).");
        CalledRiver river = Check.river(ROUND + STRAIGHT_ONE + ROUND_ONE);
        check.due("all", river.who(), 3);
        check.due("STEP 0", SentenceCheck.see(river, 0, 1, 0), 1);
        check.due("both", river.who(), 3);
        check.due("STEP 40", SentenceCheck.see(river, 40, 2, 2), 1);
        check.due("nobody by then", river.who(), 0);
        check.due("STEP 41", SentenceCheck.see(river, 41, 1, 0), NONE);
        SentenceCheck.see(river, 1, 1, 1);
        check.due("the straight one", river.who(), 1);
        SentenceCheck.see(river, 3, 1, 1);
        check.due("the round one", river.who(), 2);
        SentenceCheck.see(river, 2, 1, 1);
        check.due("there, but not by that STEP", river.who(), 0);
        SentenceCheck.see(river, 1, 1, 2);
        check.due("another row", river.who(), 0);
        SentenceCheck.see(river, 0, 1, 0, 1, 0, 0, 5, 2, 0);
        check.due("all rows fit", river.who(), 2);
        SentenceCheck.see(river, 0, 1, 0, 1, 0, 0, 5, 2, 1);
        check.due("one row does not", river.who(), 0);
        river = Check.river("plain 3 by 2;source 1;" + CALLER + "goes down*(2*year-1);");
        SentenceCheck.see(river, 1, 1, 1);
        check.due("in YEAR 0", river.who(), 1);
        river.spring(0);
        check.due("in YEAR 1", river.who(), 0);
    }

    private void telling() {
        check.sentence("III", "TELLING is the STEP (0 .. 40) by whose CELL, whatever it is, or none (the WAY is over), the most CALLERS left are fewest;"
                + " of like ones the first.");
        // w ends in a LAKE by STEP 1, x in the SEA by STEP 2, y and z part behind STEP 2
        CalledRiver river = Check.river("plain 3 by 3;source 1;stone 0 1;farm f at 2 0 day 9 pie 9;caller w bold 0 kind 0;caller x bold 9 kind 0;"
                + "caller y bold 0 kind 9;caller z bold 1 kind 9;goes kind*pie-bold*down;");
        check.due("w and x are over by STEP 3, when y and z are apart", river.tells(0), 1);
        check.due("two at the most", river.tells(1), 2);
        SentenceCheck.see(river, 1, 2, 0);
        check.due("y and z", river.who(), 12);
        check.due("STEP 3", river.tells(0), 3);
        check.due("one", river.tells(1), 1);
        SentenceCheck.see(river, 1, 1, 1);
        check.due("x alone: the first STEP of all", river.tells(0), 0);
        check.due("one", river.tells(1), 1);
        river = Check.river(ROUND + STRAIGHT_ONE + "caller t bold 0 kind 1;caller u bold 0 kind 2;" + ROUND_ONE);
        check.due("the first that tells", river.tells(0), 1);
        check.due("three", river.tells(1), 3);
        river = Check.river(ROUND + STRAIGHT_ONE + "caller t bold 0 kind 1;");
        check.due("no STEP tells, the first", river.tells(0), 0);
        check.due("both", river.tells(1), 2);
    }
}

/** Promises 14 to 23: best, least, dry, bid, rest, parts, mill, see, who, tells. */
final class CallEdges {
    private static final int FAR = Integer.MAX_VALUE;
    private static final int LOW = Integer.MIN_VALUE;
    private static final int NONE = CalledRiver.NONE;
    private static final int[] NO_INDEX = {-1, 5, 6, 40, FAR, LOW};
    private static final String CALLER = "caller c bold 0 kind 0;";
    private static final String PLAIN = "plain 2 by 2;farm a at 0 1 day 1 pie 5;farm b at 1 0 day 1 pie 4;"
            + "caller l bold 0 kind 0;caller r bold 1 kind 0;goes down*(2*bold-1);";

    private final SentenceCheck check;

    CallEdges(SentenceCheck check) {
        this.check = check;
    }

    void all() {
        best();
        least();
        dry();
        bid();
        rest();
        parts();
        mill();
        seeRows();
        seeRefused();
        who();
        tells();
    }

    private void best() {
        check.sentence("14", "BEST; NONE without a CALLER, or a WAY.");
        check.due("BEST", Check.river(PLAIN).best(), 0);
        check.due("without a CALLER", Check.river("plain 2 by 2;farm a at 0 0 day 1 pie 1;").best(), NONE);
        check.due("without a WAY", Check.river(PLAIN + "stone 0 0;").best(), NONE);
        check.due("with a WAY that waters none", Check.river("plain 2 by 2;" + CALLER).best(), 0);
        check.due("with a WAY of no STEPS", Check.river("plain 2 by 2;stone 1 0;stone 0 1;" + CALLER).best(), 0);
        check.due("without a plain", new CalledRiver().best(), NONE);
    }

    private void least() {
        check.sentence("15", "The LEAST for told FARMS (bits): how many STEPS; NONE when there is no such way, or there are none such.");
        CalledRiver river = Check.river(PLAIN);
        int[] want = {0, 1, 1, NONE};
        for (int farms = 0; farms < 4; farms++) {
            check.due("least " + farms, river.least(farms), want[farms]);
        }
        for (int farms : new int[] {4, 5, 7, 8, 63, 64, 1 << 30, FAR, -1, -2, LOW, LOW + 1}) {
            check.due("least " + farms, river.least(farms), NONE);
        }
        check.due("of none", Check.river("plain 2 by 2;").least(0), 0);
        check.due("without FARMS", Check.river("plain 2 by 2;").least(1), NONE);
        check.due("of none from a stone", Check.river("plain 2 by 2;stone 0 0;").least(0), NONE);
        check.due("of none without a plain", new CalledRiver().least(0), NONE);
        CalledRiver six = Check.river(TextEdges.farms(6).replace("day 1", "day 40"));
        check.due("all six", six.least(63), 5);
        check.due("a seventh", six.least(64), NONE);
        check.due("a seventh with all six", six.least(127), NONE);
    }

    private void dry() {
        check.sentence("16", "DRY, as bits; NONE when there is no way at all (the source is stone), or without a plain.");
        check.due("a or b", Check.river(PLAIN).dry(), 1);
        check.due("the source is stone", Check.river(PLAIN + "stone 0 0;").dry(), NONE);
        check.due("the source is stone, without FARMS", Check.river("plain 2 by 2;source 1;stone 1 0;").dry(), NONE);
        check.due("another CELL is stone", Check.river("plain 2 by 2;source 1;stone 0 0;").dry(), 0);
        check.due("shut in", Check.river(PLAIN + "stone 1 0;stone 0 1;").dry(), 3);
        check.due("without a plain", new CalledRiver().dry(), NONE);
    }

    private void bid() {
        check.sentence("17", "A BID of a FARM by a CALLER; NONE when by none, or there are none such.");
        CalledRiver river = Check.river(PLAIN);
        check.due("a by l", river.bid(0, 0), 0);
        check.due("a by r", river.bid(0, 1), NONE);
        check.due("b by r", river.bid(1, 1), 0);
        check.due("b by l", river.bid(1, 0), NONE);
        for (int none : NO_INDEX) {
            check.due("a FARM that is none", river.bid(none, 0), NONE);
            check.due("a CALLER who is none", river.bid(0, none), NONE);
            check.due("neither", river.bid(none, none), NONE);
        }
        check.due("the third FARM", river.bid(2, 0), NONE);
        check.due("the third CALLER", river.bid(0, 2), NONE);
        river.stone(0, 0, 1);
        check.due("without a WAY", river.bid(0, 0), NONE);
        check.due("a FARM at the source, without a WAY", Check.river("plain 2 by 2;farm a at 0 0 day 1 pie 1;stone 0 0;" + CALLER).bid(0, 0), NONE);
    }

    private void rest() {
        check.sentence("18", "At REST by a CALLER, as bits; NONE when no set is, there is no WAY, or there is none such.");
        CalledRiver river = Check.river("plain 3 by 2;source 1;farm a at 0 0 day 3 pie 1;farm b at 2 0 day 3 pie 1;"
                + "goes pie*(9-bold)-bold*down;caller k bold 0 kind 0;caller s bold 9 kind 0;");
        check.due("no set", river.rest(0), NONE);
        check.due("nobody", river.rest(1), 0);
        for (int none : NO_INDEX) {
            check.due("by a CALLER who is none", river.rest(none), NONE);
        }
        check.due("the third CALLER", river.rest(2), NONE);
        river.stone(1, 0, 1);
        check.due("without a WAY", river.rest(1), NONE);
        check.due("without a WAY or FARMS", Check.river("plain 2 by 2;stone 0 0;" + CALLER).rest(0), NONE);
        check.due("without FARMS", Check.river("plain 2 by 2;" + CALLER).rest(0), 0);
        // six that have no pie are all as well off
        check.due("all six", Check.river(TextEdges.farms(6).replace("pie 1", "pie 0") + CALLER).rest(0), 63);
    }

    private void parts() {
        check.sentence("19",
                "NONE when they are alike to the end of both (0), do not MEET (1, 2), there is no WAY, there are none such, they are one, or for others.");
        CalledRiver river = Check.river(PLAIN + "caller t bold 0 kind 9;");
        check.due("they PART", river.parts(0, 1, 0), 0);
        check.due("the same the other way", river.parts(1, 0, 0), 0);
        check.due("they do not MEET", river.parts(0, 1, 1), NONE);
        check.due("they do not MEET", river.parts(0, 1, 2), NONE);
        for (int what = 0; what < 3; what++) {
            check.due("alike to the end", river.parts(0, 2, what), NONE);
            check.due("one", river.parts(1, 1, what), NONE);
            for (int none : NO_INDEX) {
                check.due("the first is none", river.parts(none, 0, what), NONE);
                check.due("the other is none", river.parts(0, none, what), NONE);
                check.due("both are none", river.parts(none, none, what), NONE);
            }
            check.due("the fourth", river.parts(0, 3, what), NONE);
        }
        CalledRiver meet = Check.river("plain 2 by 4;stone 1 0;caller a bold 0 kind 0;caller b bold 1 kind 0;goes 2*bold*down-down;");
        check.due("they MEET", meet.parts(0, 1, 1), 0);
        for (int what : new int[] {-1, 3, 4, FAR, LOW, LOW + 1}) {
            check.due("parts what " + what, meet.parts(0, 1, what), NONE);
        }
        meet.stone(0, 0, 1);
        for (int what = 0; what < 3; what++) {
            check.due("without a WAY", meet.parts(0, 1, what), NONE);
        }
    }

    private void mill() {
        check.sentence("20", "A MILL: column (what 0), row (1), on how many WAYS (2). NONE when no CELL is on any, or for others.");
        CalledRiver river = Check.river("plain 3 by 3;source 2;" + CALLER);
        check.due("column", river.mill(0), 2);
        check.due("row", river.mill(1), 1);
        check.due("on how many", river.mill(2), 1);
        for (int what : new int[] {-1, 3, 4, FAR, LOW}) {
            check.due("mill what " + what, river.mill(what), NONE);
        }
        river = Check.river("plain 6 by 6;source 5;" + CALLER);
        check.due("column in the largest plain", river.mill(0), 5);
        check.due("row in the largest plain", river.mill(1), 1);
        for (int what = 0; what < 3; what++) {
            check.due("without CALLERS", Check.river("plain 2 by 2;").mill(what), NONE);
            check.due("without a WAY", Check.river("plain 2 by 2;stone 0 0;" + CALLER).mill(what), NONE);
            check.due("on a WAY of no STEPS", Check.river("plain 2 by 2;stone 1 0;stone 0 1;" + CALLER).mill(what), NONE);
            check.due("without a plain", new CalledRiver().mill(what), NONE);
        }
    }

    private void seeRows() {
        check.sentence("21", "The tape (it goes) tells what is SEEN, 1 to 16 rows of three bytes: how many rows;");
        CalledRiver river = Check.river(PLAIN);
        check.due("one", SentenceCheck.see(river, 0, 0, 0), 1);
        check.due("rows", river.has(9), 1);
        check.due("the tape is gone", river.end(1), false);
        int[] sixteen = new int[48];
        sixteen[45] = 1;
        sixteen[47] = 1;
        check.due("sixteen", SentenceCheck.see(river, sixteen), 16);
        check.due("rows", river.has(9), 16);
        check.due("the sixteenth counts", river.who(), 1);
        check.due("three in their place", SentenceCheck.see(river, 0, 0, 0, 0, 0, 0, 40, 1, 1), 3);
        check.due("rows", river.has(9), 3);
        check.due("none is refused", river.status(1), 0);
    }

    private void seeRefused() {
        check.sentence("21", "NONE, refused (1), all staying, when it is none such (CELLS that there are), or without a plain.");
        int[][] wrong = {{}, {0}, {0, 0}, {0, 0, 0, 0}, {0, 0, 0, 0, 0}, {41, 0, 0}, {255, 0, 0}, {0, 2, 0}, {0, 0, 3}, {0, 255, 0}, {0, 0, 255},
            {0, 0, 0, 0, 2, 0}, {0, 0, 0, 41, 0, 0}, new int[49], new int[50], new int[51], new int[60]};
        for (int[] bytes : wrong) {
            check.refused(1, NONE, SentenceCheck::busy, river -> SentenceCheck.see(river, bytes));
        }
        CalledRiver river = Check.river(PLAIN);
        SentenceCheck.see(river, 1, 2, 3, 4);
        check.due("that tape goes, too", river.end(1), false);
        check.due("the last CELL", SentenceCheck.see(river, 40, 1, 1), 1);
        CalledRiver none = new CalledRiver();
        check.due("without a plain", SentenceCheck.see(none, 0, 0, 0), NONE);
        check.due("refused", none.status(1), 1);
        check.due("nothing is SEEN", none.has(9), 0);
        check.due("that tape goes, too", none.end(1), false);
    }

    private void who() {
        check.sentence("22", "CALLERS by what is SEEN (all, if nothing is), as bits.");
        check.due("all", Check.river(PLAIN).who(), 3);
        check.due("all five", Check.river(TextEdges.callers(5)).who(), 31);
        check.due("all, without a WAY", Check.river(PLAIN + "stone 0 0;").who(), 3);
        check.due("without CALLERS", Check.river("plain 2 by 2;").who(), 0);
        check.due("without a plain", new CalledRiver().who(), 0);
        CalledRiver river = Check.river(PLAIN);
        SentenceCheck.see(river, 1, 0, 1);
        check.due("l", river.who(), 1);
        SentenceCheck.see(river, 1, 1, 0);
        check.due("r", river.who(), 2);
        SentenceCheck.see(river, 0, 0, 0);
        check.due("both", river.who(), 3);
        SentenceCheck.see(river, 2, 0, 1);
        check.due("nobody", river.who(), 0);
        SentenceCheck.see(river, 0, 0, 0);
        river.stone(0, 0, 1);
        check.due("nobody without a WAY", river.who(), 0);
    }

    private void tells() {
        check.sentence("23", "TELLING: the STEP (what 0), how many CALLERS are left at the most (1). NONE without a CALLER left, or for others.");
        CalledRiver river = Check.river(PLAIN);
        check.due("STEP", river.tells(0), 1);
        check.due("left", river.tells(1), 1);
        for (int what : new int[] {-1, 2, 3, FAR, LOW}) {
            check.due("tells what " + what, river.tells(what), NONE);
        }
        for (int caller = 0; caller < 2; caller++) {
            SentenceCheck.see(river, 1, caller, 1 - caller);
            check.due("one alone", river.who(), 1 << caller);
            check.due("no STEP tells more", river.tells(0), 0);
            check.due("he is left", river.tells(1), 1);
        }
        SentenceCheck.see(river, 40, 0, 0);
        check.due("nobody is left", river.tells(0), NONE);
        check.due("nobody is left", river.tells(1), NONE);
        for (int what = 0; what < 2; what++) {
            check.due("without CALLERS", Check.river("plain 2 by 2;").tells(what), NONE);
            check.due("without a plain", new CalledRiver().tells(what), NONE);
        }
        river = Check.river(TextEdges.callers(5));
        check.due("all alike", river.tells(0), 0);
        check.due("all are left", river.tells(1), 5);
        river.stone(0, 0, 1);
        check.due("without a WAY all alike", river.tells(0), 0);
        check.due("without a WAY all are left", river.tells(1), 5);
    }
}

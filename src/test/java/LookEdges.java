/** Promises 1 to 13: a new object, the tape, plain, fault, and what can be looked at. */
final class LookEdges {
    private static final int FAR = Integer.MAX_VALUE;
    private static final int LOW = Integer.MIN_VALUE;
    private static final int NONE = CalledRiver.NONE;
    private static final String TEXT = "plain 3 by 2;high 0 0 7;high 2 1 4;stone 1 1;stone 2 0;"
            + "farm zebra at 2 1 day 12 pie 6;farm a at 0 1 day 1 pie 3;"
            + "caller yellow bold 4 kind 5;caller bo bold 0 kind 9;caller c bold 9 kind 0;";

    private final SentenceCheck check;

    LookEdges(SentenceCheck check) {
        this.check = check;
    }

    void all() {
        manyCalls();
        newObject();
        feed();
        end();
        plain();
        plainWithFault();
        plainAnew();
        fault();
        has();
        letter();
        cell();
        farm();
        caller();
        kept();
        now();
        way();
        leads();
    }

    private void manyCalls() {
        check.sentence("ahead", "An object is used for at most 512 calls after it has been made;");
        CalledRiver river = new CalledRiver();
        river.feed(0x706c6169, 0x6e203220, 0x62792032, 0x3b63616c, 0x6c657220);
        river.feed(0x6120626f, 0x6c642030, 0x206b696e, 0x6420303b, 0);
        check.due("end", river.end(36), true);
        check.due("plain", river.plain(), 2);
        for (int k = 4; k < 507; k++) {
            river.spring(0);
        }
        check.due("YEAR", river.has(4), 503);
        check.due("KEPT", river.kept(39, 0), 502);
        check.due("wet", river.cell(0, 0, 2), 99);
        check.due("ACTS", river.has(10), 20);
        check.due("the 512th call", river.undo(), true);
    }

    private void newObject() {
        check.sentence("1", "No plain, nobody.");
        CalledRiver river = new CalledRiver();
        for (int what = 0; what <= 10; what++) {
            check.due("has " + what, river.has(what), what == 6 ? NONE : 0);
        }
        check.due("cell", river.cell(0, 0, 0), NONE);
        check.due("farm", river.farm(0, 0), NONE);
        check.due("caller", river.caller(0, 0), NONE);
        check.due("letter", river.letter(0, 0, 0), NONE);
        check.due("kept", river.kept(0, 0), NONE);
        check.due("who", river.who(), 0);
        check.due("feed", river.feed(0, 0, 0, 0, 0), 20);
        for (int what = 0; what < 6; what++) {
            check.due("status " + what, river.status(what), 0);
        }
    }

    private void feed() {
        check.sentence("2", "Twenty bytes come behind those on the tape, of each number the highest first: how many there are;");
        CalledRiver river = Check.river("plain 2 by 2;");
        // 4 rows of what was seen: 12 bytes, the first one of each number in its highest byte
        check.due("20", river.feed(0x28010100, 0x00000100, 0x00000000, -1, -1), 20);
        check.due("40", river.feed(LOW, FAR, -1, 0, 1), 40);
        check.due("12", river.end(12), true);
        check.due("4 rows", river.see(), 4);
        river.feed(0x01010128, 0, 0, 0, 0);
        river.end(3);
        check.due("STEP 1", river.see(), 1);
        river.feed(0x29010100, 0, 0, 0, 0);
        river.end(3);
        check.due("STEP 41 in the highest byte", river.see(), NONE);
        river.feed(0x80000000, 0, 0, 0, 0);
        river.end(3);
        check.due("128 in the highest byte", river.see(), NONE);
        // behind those that are there: the fourth byte of the tape is the first one behind 3
        river.feed(0x01000100, 0, 0, 0, 0);
        river.end(3);
        check.due("23", river.feed(0x00010000, 0, 0, 0, 0), 23);
        river.end(6);
        check.due("2 rows", river.see(), 2);
        check.sentence("2", "NONE, refused (0), if there would be more than 1600.");
        for (int first : new int[] {20, 1, 0, 19}) {
            CalledRiver full = new CalledRiver();
            full.feed(0, 0, 0, 0, 0);
            full.end(first);
            int length = first;
            while (length + 20 <= 1600) {
                length += 20;
                check.due("feed", full.feed(1, 2, 3, 4, 5), length);
            }
            check.due("one too many", full.feed(1, 2, 3, 4, 5), NONE);
            check.due("refused", full.status(0), 1);
            check.due("as many as there were", full.end(length + 1), false);
            check.due("as many as there were", full.end(length), true);
        }
    }

    private void end() {
        check.sentence("3", "The tape has its first n bytes alone: true;");
        CalledRiver river = new CalledRiver();
        check.due("none of none", river.end(0), true);
        river.feed(0, 0, 0, 0, 0);
        check.due("all", river.end(20), true);
        check.due("19", river.end(19), true);
        check.due("39", river.feed(0, 0, 0, 0, 0), 39);
        check.due("none", river.end(0), true);
        check.due("20", river.feed(0, 0, 0, 0, 0), 20);
        check.due("not refused", river.status(0), 0);
        Check.lay(river, "plain 2 by 2;x");
        check.due("without the x", river.end(13), true);
        check.due("plain", river.plain(), 1);
        // what stood behind them is no part of a word or a number any more
        Check.lay(river, "plain 2 by 2;farm a at 0 0 day 1 pie 1;farm b at 1 1 day 1 pie 2;");
        river.plain();
        Check.lay(river, "total 1234567 x");
        river.end(10);
        check.due("four digits", river.ask(), 2468);
        Check.lay(river, "total pies");
        river.end(9);
        check.due("a word", river.ask(), 3);
        Check.lay(river, "often all]");
        river.end(9);
        check.due("a sign", river.ask(), 2);
        Check.lay(river, "plain 2 by 22");
        river.end(12);
        river.plain();
        check.due("it ends too soon", river.fault(0), 1);
        check.due("at its length", river.fault(1), 12);
        check.sentence("3", "false, refused (0), if it has not so many, or n is below 0.");
        river = new CalledRiver();
        int[] wrong = {1, -1, LOW, FAR, 1600};
        for (int k = 0; k < wrong.length; k++) {
            check.due("end " + wrong[k], river.end(wrong[k]), false);
            check.due("refused", river.status(0), k + 1);
        }
        Check.lay(river, "plain 2 by 2;");
        check.due("14", river.end(14), false);
        check.due("-1", river.end(-1), false);
        check.due("the tape is as it was", river.plain(), 1);
        check.refused(0, 0, SentenceCheck::busy, one -> one.end(1) ? 1 : 0);
    }

    private void plain() {
        check.sentence("4", "The tape (it goes) is THE PLAIN: how many STATEMENTS;");
        CalledRiver river = check.told("plain 2 by 2;", 1);
        check.due("the tape is gone", river.end(1), false);
        check.due("the tape is gone", river.feed(0, 0, 0, 0, 0), 20);
        check.due("STATEMENTS of a FAULT", river.plain(), NONE);
        check.due("that tape, too", river.end(1), false);
        check.told("plain 2 by 2;source 1;source 1;goes 1;", 4);
        check.told("plain 2 by 2;" + "source 1;".repeat(79), 80);
        check.told("plain 2 by 2;" + " ".repeat(1587), 1);
    }

    private void plainWithFault() {
        check.sentence("4", "NONE, refused (1), with a FAULT (all stays; one without a STATEMENT has FAULT 1 at its length).");
        for (String text : new String[] {"", " ", "x", "plain 9 by 2;", "plain 2 by 2;farm x at 0 0 day 1 pie 1;farm x", "plain 2 by 2;goes (((((((",
            "plain 3 by 3;high 0 0 9;stone 0 0;source 1;farm a at 0 0 day 1 pie 1;caller z bold 1 kind 1;goes 1;bakes 9;bakes"}) {
            check.refused(1, NONE, SentenceCheck::busy, river -> {
                Check.lay(river, text);
                return river.plain();
            });
        }
        check.fault(1, "^", " ^", "\n^", "  \n  ^");
        CalledRiver river = Check.river(TEXT);
        check.dueFault(river, 1, "plain 2 by 2;farm q at 0 0 day 9 pie 9;caller z bold 1 kind 1;source 1;goes 0-5^");
        check.due("columns", river.has(0), 3);
        check.due("letter", river.letter(0, 0, 0), 26);
        check.due("day", river.farm(0, 2), 12);
        check.due("bold", river.caller(0, 0), 4);
        check.due("its WAY", river.leads(0, 0), 1);
        CalledRiver none = new CalledRiver();
        check.dueFault(none, 1, "plain 2 by 2;^x");
        check.due("still no plain", none.has(6), NONE);
        check.due("still no plain", none.has(0), 0);
    }

    private void plainAnew() {
        check.sentence("4", "Without one all is as at first, nothing is KEPT, SEEN or can be undone; the seed stays.");
        CalledRiver river = SentenceCheck.busy();
        check.dueTold(river, SentenceCheck.BUSY, 10);
        check.alike(river, Check.river(SentenceCheck.BUSY));
        for (int what : new int[] {4, 8, 9, 10}) {
            check.due("has " + what, river.has(what), 0);
        }
        check.due("undo", river.undo(), false);
        river = SentenceCheck.busy();
        check.dueTold(river, "plain 2 by 2;", 1);
        check.alike(river, Check.river("plain 2 by 2;"));
        check.due("the FARMS are gone", river.farm(0, 0), NONE);
        check.due("the CALLERS are gone", river.leads(0, 0), NONE);
        check.due("a FARM's CELL", river.cell(0, 1, 3), NONE);
        river = SentenceCheck.busy();
        check.dueTold(river, TextEdges.callers(5), 6);
        river.chance(5);
        CalledRiver other = Check.river(TextEdges.callers(5));
        other.chance(3);
        other.chance(5);
        for (int k = 0; k < 5; k++) {
            check.due("the seed is the one behind three DRAWS", river.kept(k, 1), other.kept(k + 3, 1));
        }
        river = new CalledRiver();
        river.seed(77);
        check.dueTold(river, TextEdges.callers(5), 6);
        river.chance(5);
        other = Check.river(TextEdges.callers(5));
        other.seed(77);
        other.chance(5);
        for (int k = 0; k < 5; k++) {
            check.due("the seed that was told", river.kept(k, 1), other.kept(k, 1));
        }
        staleTexts();
        // the WAYS of the plain ahead do not stay
        river = Check.river("plain 2 by 3;" + "caller l bold 0 kind 0;");
        check.due("two STEPS", river.leads(0, 0), 2);
        check.dueTold(river, "plain 2 by 5;caller l bold 0 kind 0;", 2);
        check.due("four STEPS", river.leads(0, 0), 4);
        // sums of the plain ahead do not stay
        river = Check.river("plain 2 by 2;farm a at 0 1 day 1 pie 5;caller l bold 0 kind 0;goes down;bakes 9;");
        check.dueTold(river, "plain 2 by 2;farm a at 0 1 day 1 pie 5;caller l bold 0 kind 0;", 3);
        check.due("goes", river.spring(0), 1);
        check.due("bakes", river.farm(0, 3), 5);
    }

    /** Nothing stays of the plains ahead, nor of texts with a FAULT, whichever of them stands in the way. */
    private void staleTexts() {
        String full = "plain 3 by 3;high 0 0 9;high 1 1 5;stone 2 2;stone 0 1;source 2;"
                + "farm a at 0 0 day 1 pie 9;farm b at 1 1 day 1 pie 9;farm e at 2 2 day 1 pie 9;"
                + "caller c bold 1 kind 1;caller d bold 2 kind 2;goes 0-1;bakes 9;";
        String bare = "plain 3 by 3;caller a bold 0 kind 0;farm d at 0 1 day 9 pie 4;farm c at 2 0 day 9 pie 5;";
        String[][] rows = {{full}, {full + "x"}, {full, full + "x"}, {full, full}, {full, "plain 2 by 2;"}, {full, "plain 2 by 2;", "plain 2 by 2;x"},
                {bare, full + "x"}};
        for (String[] ahead : rows) {
            CalledRiver river = new CalledRiver();
            for (String text : ahead) {
                Check.lay(river, text);
                river.plain();
            }
            check.dueTold(river, bare, 4);
            check.alike(river, Check.river(bare));
            check.due("source", river.has(6), 0);
            check.due("stones", river.has(5), 0);
            check.due("pies", river.has(7), 9);
            check.due("heights", river.cell(0, 0, 0) + river.cell(1, 1, 0), 0);
            check.due("no FARM in the midst", river.cell(1, 1, 3), NONE);
            check.due("CALLERS", river.has(3), 1);
            check.way(river, 0, 0, 0, 0, 1, 0, 2);
            river.spring(0);
            check.due("bakes is pie", river.farm(0, 3), 4);
            check.due("NAMES that were taken are not", river.letter(0, 1, 0), 3);
        }
    }

    private void fault() {
        check.sentence("5", "Of the latest plain() or ask(): its FAULT (what 0; 0 without, and ahead of any), its place (1; NONE without).");
        CalledRiver river = new CalledRiver();
        check.due("ahead of any", river.fault(0), 0);
        check.due("ahead of any", river.fault(1), NONE);
        check.dueFault(river, 2, "plain ^9");
        check.dueFault(river, 1, "^");
        check.dueTold(river, TEXT, 10);
        check.dueAskFault(river, 1, "often ^x");
        check.dueAnswer(river, "often all", 2);
        check.dueFault(river, 5, "plain 2 by 2;goes 1;^goes");
        check.dueAnswer(river, "often all", 2);
        check.dueAskFault(river, 4, "often [[[[[[^[");
        SentenceCheck.see(river, 99);
        Check.lay(river, 1, 2, 3);
        river.on();
        river.spring(9);
        check.due("of the latest of those two", river.fault(0), 4);
        check.due("its place", river.fault(1), 12);
        check.dueTold(river, TEXT, 10);
        check.sentence("5", "NONE for another what.");
        for (int what : new int[] {-1, 2, 3, FAR, LOW}) {
            check.due("fault " + what, river.fault(what), NONE);
        }
        check.dueFault(river, 5, "plain 2 by 2;goes 1;^goes");
        for (int what : new int[] {-1, 2, 3, FAR, LOW}) {
            check.due("fault " + what, river.fault(what), NONE);
        }
    }

    private void has() {
        check.sentence("6", "How many there are: 0 columns, 1 rows, 2 FARMS, 3 CALLERS, 4 YEAR, 5 stones, 6 the source's column (NONE without a plain), 7 pies together,"
                + " 8 what is told as KEPT, 9 rows SEEN, 10 ACTS that can be undone.");
        CalledRiver river = SentenceCheck.busy();
        int pies = river.farm(0, 3) + river.farm(1, 3);
        long[] want = {2, 3, 2, 2, 4, 2, 0, pies, 4, 2, 5};
        for (int what = 0; what <= 10; what++) {
            check.due("has " + what, river.has(what), want[what]);
        }
        check.due("without a plain", new CalledRiver().has(6), NONE);
        check.due("the last column", Check.river("plain 6 by 2;source 5;").has(6), 5);
        check.due("a source that is stone", Check.river("plain 6 by 2;source 5;stone 5 0;").has(6), 5);
        check.due("pies of 9", Check.river(TextEdges.farms(6).replace("pie 1", "pie 9")).has(7), 54);
        StringBuilder stones = new StringBuilder("plain 6 by 6;");
        for (int k = 0; k < 36; k++) {
            stones.append("stone ").append(k % 6).append(' ').append(k / 6).append(';');
        }
        check.due("all stones", Check.river(stones.toString()).has(5), 36);
        check.sentence("6", "NONE for others.");
        for (int what : new int[] {-1, 11, 12, FAR, LOW}) {
            check.due("has " + what, river.has(what), NONE);
        }
    }

    private void letter() {
        check.sentence("7", "Letter k (0 .. 5) of the NAME of a FARM (kind 0), a CALLER (1): 1 .. 26; 0 behind it; NONE when there is none such.");
        CalledRiver river = Check.river(TEXT);
        int[][] want = {{26, 5, 2, 18, 1, 0}, {1, 0, 0, 0, 0, 0}, {25, 5, 12, 12, 15, 23}, {2, 15, 0, 0, 0, 0}, {3, 0, 0, 0, 0, 0}};
        for (int name = 0; name < want.length; name++) {
            for (int k = 0; k < 6; k++) {
                check.due("letter " + k + " of NAME " + name, river.letter(name < 2 ? 0 : 1, name < 2 ? name : name - 2, k), want[name][k]);
            }
        }
        int[][] none = {{0, 0, -1}, {0, 0, 6}, {1, 0, -1}, {1, 0, 6}, {0, 2, 0}, {1, 3, 0}, {0, -1, 0}, {1, -1, 0}, {-1, 0, 0}, {2, 0, 0},
            {0, 0, FAR}, {0, 0, LOW}, {0, FAR, 0}, {0, LOW, 0}, {FAR, 0, 0}, {LOW, 0, 0}};
        for (int[] one : none) {
            check.due("letter of none", river.letter(one[0], one[1], one[2]), NONE);
        }
    }

    private void cell() {
        check.sentence("8", "Of a CELL: 0 height, 1 whether it is stone, 2 how often it was wet, 3 its FARM (NONE).");
        CalledRiver river = Check.river(TEXT);
        river.spring(0);
        int[][] want = {{0, 0, 7, 0, 1, NONE}, {1, 0, 0, 0, 0, NONE}, {2, 0, 0, 1, 0, NONE}, {0, 1, 0, 0, 1, 1}, {1, 1, 0, 1, 0, NONE},
            {2, 1, 4, 0, 0, 0}};
        for (int[] one : want) {
            for (int what = 0; what < 4; what++) {
                check.due("cell " + one[0] + " " + one[1] + " " + what, river.cell(one[0], one[1], what), one[what + 2]);
            }
        }
        check.sentence("8", "NONE when there is none such, or for others.");
        int[][] none = {{3, 0, 0}, {0, 2, 0}, {-1, 0, 0}, {0, -1, 0}, {0, 0, 4}, {0, 0, -1}, {FAR, 0, 0}, {0, FAR, 0}, {LOW, 0, 0}, {0, LOW, 0},
            {0, 0, FAR}, {0, 0, LOW}, {3, 1, 3}, {-1, 1, 0}};
        for (int[] one : none) {
            check.due("cell of none", river.cell(one[0], one[1], one[2]), NONE);
        }
    }

    private void farm() {
        check.sentence("9", "Of a FARM: 0 column, 1 row, 2 day, 3 pie. NONE when there is none such, or for others.");
        CalledRiver river = Check.river(TEXT);
        int[][] want = {{2, 1, 12, 6}, {0, 1, 1, 3}};
        for (int farm = 0; farm < 2; farm++) {
            for (int what = 0; what < 4; what++) {
                check.due("farm " + farm + " " + what, river.farm(farm, what), want[farm][what]);
            }
            for (int what : new int[] {-1, 4, FAR, LOW}) {
                check.due("farm " + farm + " " + what, river.farm(farm, what), NONE);
            }
        }
        for (int farm : new int[] {-1, 2, 6, FAR, LOW}) {
            check.due("farm " + farm, river.farm(farm, 0), NONE);
        }
        check.due("the sixth", Check.river(TextEdges.farms(6)).farm(5, 0), 2);
        check.due("the seventh", Check.river(TextEdges.farms(6)).farm(6, 0), NONE);
    }

    private void caller() {
        check.sentence("10", "Of a CALLER: 0 how bold, 1 how kind. NONE when there is none such, or for others.");
        CalledRiver river = Check.river(TEXT);
        int[][] want = {{4, 5}, {0, 9}, {9, 0}};
        for (int caller = 0; caller < 3; caller++) {
            check.due("bold", river.caller(caller, 0), want[caller][0]);
            check.due("kind", river.caller(caller, 1), want[caller][1]);
            for (int what : new int[] {-1, 2, FAR, LOW}) {
                check.due("caller " + caller + " " + what, river.caller(caller, what), NONE);
            }
        }
        for (int caller : new int[] {-1, 3, 5, FAR, LOW}) {
            check.due("caller " + caller, river.caller(caller, 0), NONE);
        }
        check.due("the fifth", Check.river(TextEdges.callers(5)).caller(4, 0), 0);
        check.due("the sixth", Check.river(TextEdges.callers(5)).caller(5, 0), NONE);
    }

    private void kept() {
        check.sentence("11", "Of what is told as KEPT, the k-th from the oldest on: 0 YEAR, 1 CALLER, 2 how many WATERED.");
        CalledRiver river = Check.river(TEXT);
        river.spring(2);
        river.spring(0);
        river.stone(0, 1, 1);
        river.spring(1);
        int[][] want = {{0, 2, 1}, {1, 0, 1}, {2, 1, 0}};
        for (int k = 0; k < 3; k++) {
            for (int what = 0; what < 3; what++) {
                check.due("kept " + k + " " + what, river.kept(k, what), want[k][what]);
            }
        }
        check.sentence("11", "NONE when there is none such, or for others.");
        for (int k : new int[] {-1, 3, 39, 40, 998, 999, FAR, LOW}) {
            check.due("kept " + k, river.kept(k, 0), NONE);
        }
        for (int what : new int[] {-1, 3, FAR, LOW}) {
            check.due("kept what " + what, river.kept(0, what), NONE);
        }
        river.chance(100);
        check.due("ahead of the first", river.kept(-1, 0), NONE);
        check.due("ahead of the first", river.kept(-40, 0), NONE);
        check.due("the 40th", river.kept(39, 0), 102);
        check.due("the 41st", river.kept(40, 0), NONE);
        check.due("of none", Check.river(TEXT).kept(0, 0), NONE);
    }

    /** Each ACT, looked at ahead of it and behind it. */
    private void now() {
        check.sentence("12", "Of the WAY of a CALLER now,");
        CalledRiver river = Check.river("plain 3 by 2;source 1;high 1 0 1;high 0 1 1;farm a at 2 0 day 9 pie 0;caller c bold 0 kind 0;goes 2*pie-down-5*been;");
        check.way(river, 0, 1, 0, 1, 1);
        river.bake(0, 1);
        check.way(river, 0, 1, 0, 2, 0, 2, 1);
        river.stone(2, 0, 1);
        check.way(river, 0, 1, 0, 1, 1);
        river.stone(1, 1, 1);
        check.way(river, 0, 1, 0, 0, 0);
        river.dig(0, 1);
        check.way(river, 0, 1, 0, 0, 0, 0, 1);
        river.stone(2, 0, 0);
        check.way(river, 0, 1, 0, 2, 0, 2, 1);
        river.spring(0);
        check.way(river, 0, 1, 0, 0, 0, 0, 1);
        river.undo();
        check.way(river, 0, 1, 0, 2, 0, 2, 1);
        river.chance(1);
        check.way(river, 0, 1, 0, 0, 0, 0, 1);
        int[] bytes = Check.picture(river);
        for (int k = 0; k < 3; k++) {
            river.undo();
        }
        check.way(river, 0, 1, 0, 0, 0);
        Check.lay(river, bytes);
        river.on();
        check.way(river, 0, 1, 0, 0, 0, 0, 1);
    }

    private void way() {
        check.sentence("12", "by the STEP k: column (what 0), row (1). NONE when it is over, there is none such, or for others.");
        CalledRiver river = Check.river("plain 6 by 6;source 3;caller a bold 0 kind 0;caller b bold 1 kind 1;goes bold*0-down;");
        for (int k = 0; k < 6; k++) {
            check.due("column", river.way(1, k, 0), 3);
            check.due("row", river.way(1, k, 1), k);
        }
        for (int k : new int[] {6, 7, 35, 36, 37, 40, 41, FAR, -1, LOW}) {
            check.due("way by STEP " + k, river.way(1, k, 0), NONE);
            check.due("way by STEP " + k, river.way(1, k, 1), NONE);
        }
        for (int caller : new int[] {-1, 2, 5, FAR, LOW}) {
            check.due("way of " + caller, river.way(caller, 0, 0), NONE);
        }
        for (int what : new int[] {-1, 2, FAR, LOW}) {
            check.due("way what " + what, river.way(0, 0, what), NONE);
        }
        river.stone(3, 0, 1);
        check.due("no WAY", river.way(0, 0, 0), NONE);
        // the longest there is: to and fro through all rows but the last, then to the SEA
        river = Check.river("plain 6 by 6;caller a bold 0 kind 0;goes down;");
        check.due("30 STEPS", river.leads(0, 0), 30);
        check.due("ahead of the SEA", river.way(0, 29, 1), 4);
        check.due("the SEA's column", river.way(0, 30, 0), 5);
        check.due("the SEA's row", river.way(0, 30, 1), 5);
        check.due("over", river.way(0, 31, 0), NONE);
    }

    private void leads() {
        check.sentence("13",
                "0 how many STEPS, 1 how it ends (0 LAKE, 1 SEA), 2 FARMS WATERED, as bits. NONE when there is no WAY, no such CALLER, or for others.");
        CalledRiver river = Check.river("plain 2 by 3;farm a at 1 0 day 9 pie 0;farm b at 0 2 day 2 pie 0;farm c at 0 0 day 1 pie 0;"
                + "farm d at 0 1 day 1 pie 0;caller l bold 0 kind 0;");
        check.due("STEPS", river.leads(0, 0), 2);
        check.due("SEA", river.leads(0, 1), 1);
        check.due("b, c, d", river.leads(0, 2), 14);
        river.stone(0, 2, 1);
        river.stone(1, 1, 1);
        check.due("STEPS", river.leads(0, 0), 1);
        check.due("LAKE", river.leads(0, 1), 0);
        check.due("c, d", river.leads(0, 2), 12);
        for (int what : new int[] {-1, 3, FAR, LOW}) {
            check.due("leads what " + what, river.leads(0, what), NONE);
        }
        for (int caller : new int[] {-1, 1, 5, FAR, LOW}) {
            check.due("leads of " + caller, river.leads(caller, 0), NONE);
        }
        river.stone(0, 0, 1);
        for (int what = 0; what < 3; what++) {
            check.due("without a WAY", river.leads(0, what), NONE);
        }
    }
}

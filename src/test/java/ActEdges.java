/** Promises 24 to 35: acts, questions, images, refusals. */
final class ActEdges {
    private static final int FAR = Integer.MAX_VALUE;
    private static final int LOW = Integer.MIN_VALUE;
    private static final int NONE = CalledRiver.NONE;
    private static final int[] NO_INDEX = {-1, 2, 5, 6, 40, FAR, LOW};
    private static final String CALLER = "caller c bold 0 kind 0;";

    private final SentenceCheck check;

    ActEdges(SentenceCheck check) {
        this.check = check;
    }

    void all() {
        spring();
        bake();
        dig();
        stone();
        chance();
        chanceRefused();
        undo();
        undoRefused();
        seed();
        ask();
        image();
        octet();
        on();
        onRefused();
        status();
    }

    /** A busy river whose YEAR is another one. */
    private static CalledRiver busyIn(int year) {
        CalledRiver river = SentenceCheck.busy();
        int[] bytes = Check.picture(river);
        bytes[0] = year / 256;
        bytes[1] = year % 256;
        Check.lay(river, Check.sealed(bytes));
        if (!river.on()) {
            throw new IllegalStateException("no image of YEAR " + year);
        }
        return river;
    }

    private static CalledRiver busyWithoutWay() {
        CalledRiver river = SentenceCheck.busy();
        river.stone(0, 0, 1);
        return river;
    }

    private void spring() {
        check.sentence("24", "A YEAR with a CALLER: how many FARMS were WATERED;");
        String all = "plain 2 by 6;farm a at 0 0 day 1 pie 1;farm b at 0 1 day 1 pie 1;farm d at 0 2 day 2 pie 1;"
                + "farm e at 0 3 day 3 pie 1;farm f at 0 4 day 4 pie 1;farm g at 0 5 day 5 pie 1;";
        check.due("all six", Check.river(all + CALLER).spring(0), 6);
        check.due("none", Check.river("plain 2 by 2;" + CALLER).spring(0), 0);
        check.due("none by its day", Check.river("plain 2 by 3;farm a at 0 2 day 1 pie 1;" + CALLER).spring(0), 0);
        check.due("a LAKE at once", Check.river("plain 2 by 2;stone 1 0;stone 0 1;farm a at 0 0 day 1 pie 1;" + CALLER).spring(0), 1);
        check.sentence("24", "NONE, refused (2), when there is no WAY, no such CALLER, or beyond YEAR 999.");
        for (int none : NO_INDEX) {
            check.refused(2, NONE, SentenceCheck::busy, river -> river.spring(none));
        }
        check.refused(2, NONE, ActEdges::busyWithoutWay, river -> river.spring(0));
        check.refused(2, NONE, () -> busyIn(999), river -> river.spring(0));
        check.due("in 998", busyIn(998).spring(0) >= 0, true);
        check.refused(2, NONE, CalledRiver::new, river -> river.spring(0));
    }

    private void bake() {
        check.sentence("25", "A FARM's pie is so (0 .. 9): true;");
        for (int pie = 0; pie <= 9; pie++) {
            CalledRiver river = Check.river("plain 2 by 2;farm a at 0 0 day 1 pie 3;farm b at 1 1 day 1 pie 3;");
            check.due("bake " + pie, river.bake(1, pie), pie != 3);
            check.due("pie", river.farm(1, 3), pie);
            check.due("the other's", river.farm(0, 3), 3);
            check.due("an ACT", river.has(10), pie == 3 ? 0 : 1);
        }
        check.sentence("25", "false, refused (3), when it is that, there is none such, or for others.");
        for (int none : NO_INDEX) {
            check.refused(3, 0, SentenceCheck::busy, river -> river.bake(none, 7) ? 1 : 0);
        }
        for (int pie : new int[] {-1, 10, 11, 255, FAR, LOW}) {
            check.refused(3, 0, SentenceCheck::busy, river -> river.bake(0, pie) ? 1 : 0);
        }
        check.refused(3, 0, SentenceCheck::busy, river -> river.bake(0, river.farm(0, 3)) ? 1 : 0);
        check.refused(3, 0, SentenceCheck::busy, river -> river.bake(1, river.farm(1, 3)) ? 1 : 0);
        check.refused(3, 0, CalledRiver::new, river -> river.bake(0, 1) ? 1 : 0);
    }

    private void dig() {
        check.sentence("26", "A CELL is dug: how high it is;");
        CalledRiver river = Check.river("plain 2 by 2;high 1 1 9;high 0 1 1;");
        for (int height = 8; height >= 0; height--) {
            check.due("dig", river.dig(1, 1), height);
            check.due("height", river.cell(1, 1, 0), height);
        }
        check.due("0 at last", river.dig(1, 1), NONE);
        check.due("1 to 0", river.dig(0, 1), 0);
        check.due("ACTS", river.has(10), 10);
        check.sentence("26", "NONE, refused (3), when it is 0 high, stone, or there is none such.");
        check.refused(3, NONE, SentenceCheck::busy, one -> one.dig(0, 1));
        check.refused(3, NONE, () -> Check.river("plain 2 by 2;high 1 1 9;stone 1 1;"), one -> one.dig(1, 1));
        int[][] none = {{2, 0}, {0, 3}, {-1, 0}, {0, -1}, {FAR, 0}, {0, FAR}, {LOW, 0}, {0, LOW}, {2, -1}};
        for (int[] cell : none) {
            check.refused(3, NONE, SentenceCheck::busy, one -> one.dig(cell[0], cell[1]));
        }
        check.refused(3, NONE, CalledRiver::new, one -> one.dig(0, 0));
        CalledRiver stone = Check.river("plain 2 by 2;high 1 1 9;stone 1 1;");
        stone.stone(1, 1, 0);
        check.due("where a stone was", stone.dig(1, 1), 8);
    }

    private void stone() {
        check.sentence("27", "A stone is laid on a CELL (on 1), or taken away (0): true;");
        CalledRiver river = Check.river("plain 2 by 2;farm a at 1 1 day 1 pie 1;high 1 1 4;");
        check.due("laid", river.stone(1, 1, 1), true);
        check.due("stone", river.cell(1, 1, 1), 1);
        check.due("its height stays", river.cell(1, 1, 0), 4);
        check.due("its FARM stays", river.cell(1, 1, 3), 0);
        check.due("taken away", river.stone(1, 1, 0), true);
        check.due("no stone", river.cell(1, 1, 1), 0);
        check.due("on the source, too", river.stone(0, 0, 1), true);
        check.due("ACTS", river.has(10), 3);
        check.sentence("27", "false, refused (3), when it is so already, there is none such, or for others.");
        check.refused(3, 0, SentenceCheck::busy, one -> one.stone(1, 2, 1) ? 1 : 0);
        check.refused(3, 0, SentenceCheck::busy, one -> one.stone(1, 1, 1) ? 1 : 0);
        check.refused(3, 0, SentenceCheck::busy, one -> one.stone(0, 1, 0) ? 1 : 0);
        for (int on : new int[] {-1, 2, 255, 256, FAR, LOW}) {
            check.refused(3, 0, SentenceCheck::busy, one -> one.stone(0, 1, on) ? 1 : 0);
            check.refused(3, 0, SentenceCheck::busy, one -> one.stone(1, 1, on) ? 1 : 0);
        }
        int[][] none = {{2, 0}, {0, 3}, {-1, 0}, {0, -1}, {FAR, 0}, {0, FAR}, {LOW, 0}, {0, LOW}};
        for (int[] cell : none) {
            check.refused(3, 0, SentenceCheck::busy, one -> one.stone(cell[0], cell[1], 1) ? 1 : 0);
            check.refused(3, 0, SentenceCheck::busy, one -> one.stone(cell[0], cell[1], 0) ? 1 : 0);
        }
        check.refused(3, 0, CalledRiver::new, one -> one.stone(0, 0, 1) ? 1 : 0);
    }

    private void chance() {
        check.sentence("28", "n YEARS by the seed (1 .. 100), one ACT: how many FARMS were WATERED in all;");
        String text = "plain 2 by 2;farm a at 0 1 day 1 pie 5;farm b at 0 0 day 1 pie 5;" + CALLER;
        for (int n : new int[] {1, 2, 99, 100}) {
            CalledRiver river = Check.river(text);
            check.due("chance " + n, river.chance(n), 2 * n);
            check.due("YEAR", river.has(4), n);
            check.due("one ACT", river.has(10), 1);
            check.due("KEPT", river.has(8), Math.min(n, 40));
            check.due("undone at once", river.undo(), true);
            check.due("YEAR", river.has(4), 0);
            check.due("KEPT", river.has(8), 0);
        }
        // as if each YEAR were called by its CALLER
        CalledRiver river = Check.river(SentenceCheck.BUSY);
        int watered = river.chance(30);
        CalledRiver other = Check.river(SentenceCheck.BUSY);
        int sum = 0;
        for (int k = 0; k < 30; k++) {
            sum += other.spring(river.kept(k, 1));
        }
        check.due("in all", watered, sum);
        check.due("pies", river.has(7), other.has(7));
        check.due("wet", river.cell(0, 1, 2), other.cell(0, 1, 2));
    }

    private void chanceRefused() {
        check.sentence("28", "NONE, refused (2), when there is no WAY, no CALLER, n can't be, or beyond YEAR 999.");
        for (int n : new int[] {0, -1, 101, 102, FAR, LOW}) {
            check.refused(2, NONE, SentenceCheck::busy, river -> river.chance(n));
        }
        check.refused(2, NONE, ActEdges::busyWithoutWay, river -> river.chance(1));
        check.refused(2, NONE, () -> Check.river("plain 2 by 2;farm a at 0 1 day 1 pie 5;"), river -> river.chance(1));
        check.refused(2, NONE, () -> busyIn(999), river -> river.chance(1));
        check.refused(2, NONE, () -> busyIn(998), river -> river.chance(2));
        check.refused(2, NONE, () -> busyIn(900), river -> river.chance(100));
        check.refused(2, NONE, CalledRiver::new, river -> river.chance(1));
        int[][] fits = {{998, 1}, {997, 2}, {899, 100}, {900, 99}};
        for (int[] one : fits) {
            CalledRiver river = busyIn(one[0]);
            check.due("chance " + one[1] + " in " + one[0], river.chance(one[1]) >= 0, true);
            check.due("YEAR", river.has(4), 999);
        }
    }

    private void undo() {
        check.sentence("29", "The latest ACT is undone (the seed stays): true;");
        SentenceCheck.Call[] acts = {river -> river.spring(0), river -> river.bake(0, 9) ? 1 : 0, river -> river.dig(1, 0),
            river -> river.stone(1, 1, 0) ? 1 : 0, river -> river.stone(0, 2, 1) ? 1 : 0, river -> river.stone(0, 0, 1) ? 1 : 0};
        for (SentenceCheck.Call act : acts) {
            CalledRiver river = SentenceCheck.busy();
            check.due("an ACT", act.on(river) != NONE, true);
            check.due("undone", river.undo(), true);
            check.alike(river, SentenceCheck.busy());
            check.due("its WAY, too", river.leads(1, 0), SentenceCheck.busy().leads(1, 0));
        }
        CalledRiver river = SentenceCheck.busy();
        river.chance(60);
        check.due("undone", river.undo(), true);
        check.alike(river, SentenceCheck.busy());
        // the seed stays: the DRAWS go on behind those that were undone
        river = Check.river(TextEdges.callers(5));
        river.chance(20);
        river.undo();
        river.chance(20);
        CalledRiver other = Check.river(TextEdges.callers(5));
        other.chance(40);
        for (int k = 0; k < 20; k++) {
            check.due("CALLER", river.kept(k, 1), other.kept(k + 20, 1));
        }
        river = Check.river(TextEdges.callers(5));
        river.spring(0);
        river.seed(99);
        river.undo();
        river.chance(20);
        other = Check.river(TextEdges.callers(5));
        other.seed(99);
        other.chance(20);
        for (int k = 0; k < 20; k++) {
            check.due("CALLER", river.kept(k, 1), other.kept(k, 1));
        }
    }

    private void undoRefused() {
        check.sentence("29", "false, refused (4), when none can be.");
        check.refused(4, 0, () -> Check.river(SentenceCheck.BUSY), river -> river.undo() ? 1 : 0);
        check.refused(4, 0, CalledRiver::new, river -> river.undo() ? 1 : 0);
        check.refused(4, 0, () -> busyIn(3), river -> river.undo() ? 1 : 0);
        CalledRiver river = SentenceCheck.busy();
        for (int k = 0; k < 5; k++) {
            check.due("undone", river.undo(), true);
        }
        check.due("none is left", river.undo(), false);
        check.due("none is left", river.undo(), false);
        check.due("refused", river.status(4), 2);
        check.due("an undone one is no ACT to be undone", river.has(10), 0);
    }

    private void seed() {
        check.sentence("30", "The seed: true; false, refused (5), when it is below 0. (It is 1 at first.)");
        for (int seed : new int[] {0, 1, 2, FAR - 1, FAR}) {
            check.due("seed " + seed, Check.river(SentenceCheck.BUSY).seed(seed), true);
        }
        for (int seed : new int[] {-1, -2, LOW, LOW + 1}) {
            check.refused(5, 0, SentenceCheck::busy, river -> river.seed(seed) ? 1 : 0);
        }
        CalledRiver first = Check.river(TextEdges.callers(5));
        first.chance(40);
        CalledRiver one = Check.river(TextEdges.callers(5));
        one.seed(1);
        one.chance(40);
        CalledRiver two = Check.river(TextEdges.callers(5));
        two.seed(2);
        two.chance(40);
        int unlike = 0;
        for (int k = 0; k < 40; k++) {
            check.due("as by 1", first.kept(k, 1), one.kept(k, 1));
            unlike += first.kept(k, 1) == two.kept(k, 1) ? 0 : 1;
        }
        check.due("not as by 2", unlike > 0, true);
        check.due("no ACT", one.has(10), 1);
    }

    private void ask() {
        check.sentence("31", "The tape (it goes) is a QUESTION: its answer; NONE of first, last, when its TEST holds for none;");
        CalledRiver river = Check.river(SentenceCheck.BUSY);
        check.dueAnswer(river, "first all", 0);
        check.due("the tape is gone", river.end(1), false);
        check.dueAnswer(river, "last all", 1);
        check.dueAnswer(river, "first not all", NONE);
        check.dueAnswer(river, "last not all", NONE);
        check.dueAnswer(river, "often not all", 0);
        check.dueAnswer(river, "total 0-1", -2);
        check.dueAnswer(Check.river("plain 2 by 2;"), "first all", NONE);
        check.dueAnswer(Check.river("plain 2 by 2;"), "last all", NONE);
        check.sentence("31", "NOTHING with a FAULT, or, doing nothing else, without a plain.");
        check.dueAskFault(river, 1, "first ^al");
        check.due("that tape is gone, too", river.end(1), false);
        check.dueAskFault(river, 4, "often [[[[[[^[");
        for (int what = 0; what < 6; what++) {
            check.due("none is refused", river.status(what), what == 0 ? 2 : 0);
        }
        CalledRiver none = new CalledRiver();
        for (String question : new String[] {"often all", "", "x", "often [[[[[[["}) {
            Check.lay(none, question);
            check.due("without a plain", none.ask(), CalledRiver.NOTHING);
            check.due("no FAULT", none.fault(0), 0);
            check.due("no place", none.fault(1), NONE);
            check.due("the tape is gone", none.feed(0, 0, 0, 0, 0), 20);
        }
        check.dueFault(none, 2, "plain ^9");
        Check.lay(none, "often all");
        check.due("without a plain", none.ask(), CalledRiver.NOTHING);
        check.due("the FAULT ahead stays", none.fault(0), 2);
        check.due("its place stays", none.fault(1), 6);
        check.due("not refused", none.status(1), 1);
    }

    private void image() {
        check.sentence("32", "AN IMAGE is written: how many bytes.");
        for (int columns = 2; columns <= 6; columns++) {
            for (int rows = 2; rows <= 6; rows++) {
                check.due("bytes", Check.river("plain " + columns + " by " + rows + ";").image(), 3 + 3 * columns * rows);
            }
        }
        for (int farms = 0; farms <= 6; farms++) {
            check.due("bytes with " + farms + " FARMS", Check.river(TextEdges.farms(farms)).image(), 48 + farms);
        }
        check.due("without a plain", new CalledRiver().image(), 3);
        CalledRiver river = SentenceCheck.busy();
        int acts = river.has(10);
        river.image();
        check.due("no ACT", river.has(10), acts);
    }

    private void octet() {
        check.sentence("33", "Byte k of the latest image(); NONE when there is none such.");
        CalledRiver river = Check.river("plain 2 by 2;farm a at 0 0 day 1 pie 5;");
        check.due("ahead of any", river.octet(0), NONE);
        check.due("ahead of any", river.octet(15), NONE);
        int length = river.image();
        check.due("the first", river.octet(0), 0);
        check.due("the pie", river.octet(14), 5);
        check.due("the last", river.octet(length - 1) >= 0, true);
        for (int k : new int[] {-1, length, length + 1, 117, FAR, LOW}) {
            check.due("octet " + k, river.octet(k), NONE);
        }
        river.bake(0, 6);
        check.due("of the latest", river.octet(14), 5);
        river.image();
        check.due("of the latest", river.octet(14), 6);
        Check.lay(river, "plain 2 by 3;");
        river.plain();
        check.due("not of the plain as it is", river.octet(14), 6);
        river.image();
        check.due("longer now", river.octet(20) >= 0, true);
        check.due("and no more", river.octet(21), NONE);
        Check.lay(river, "plain 2 by 2;");
        river.plain();
        river.image();
        check.due("shorter now", river.octet(15), NONE);
    }

    private void on() {
        check.sentence("34", "The tape (it goes) is AN IMAGE of this PLAIN: true, all is as it tells, nothing is KEPT or can be undone;");
        CalledRiver river = SentenceCheck.busy();
        int[] bytes = Check.picture(river);
        CalledRiver other = Check.river(SentenceCheck.BUSY);
        other.spring(1);
        check.due("of a WAY", other.leads(1, 0) > 0, true);
        Check.lay(other, bytes);
        check.due("on", other.on(), true);
        check.due("the tape is gone", other.end(1), false);
        int[] now = Check.picture(other);
        for (int k = 0; k < bytes.length; k++) {
            check.due("byte " + k, now[k], bytes[k]);
        }
        check.due("nothing is KEPT", other.has(8), 0);
        check.due("nothing is KEPT", other.kept(0, 0), NONE);
        check.due("nothing can be undone", other.has(10), 0);
        check.due("nothing can be undone", other.undo(), false);
        for (int caller = 0; caller < 2; caller++) {
            for (int what = 0; what < 3; what++) {
                check.due("its WAYS", other.leads(caller, what), river.leads(caller, what));
            }
        }
        other = Check.river(SentenceCheck.BUSY);
        check.due("the most of all", SentenceCheck.show(other, 3, 231, 9, 1, 99, 9, 1, 99, 9, 1, 99, 9, 1, 99, 9, 1, 99, 9, 1, 99, 9, 9), true);
        check.due("YEAR", other.has(4), 999);
        check.due("stones", other.has(5), 6);
        check.due("pies", other.has(7), 18);
        check.due("height", other.cell(1, 2, 0), 9);
        check.due("wet", other.cell(1, 2, 2), 99);
        check.due("no WAY", other.leads(0, 0), NONE);
        check.due("the least of all", SentenceCheck.show(other, 0, 0, 0, 0, 0, 0, 0, 0, 0, 0, 0, 0, 0, 0, 0, 0, 0, 0, 0, 0, 0, 0), true);
        check.due("YEAR", other.has(4), 0);
        check.due("stones", other.has(5), 0);
        check.due("pies", other.has(7), 0);
        check.due("refused", other.status(5), 0);
    }

    private void onRefused() {
        check.sentence("34", "false, refused (5), when it is none (YEAR 999, heights, pies 9, wet 99 at most), or without a plain, all staying.");
        int[] good = Check.picture(SentenceCheck.busy());
        int last = good.length - 1;
        refuseImage(with(good, 0, 3, 1, 232));
        refuseImage(with(good, 0, 4, 1, 0));
        refuseImage(with(good, 0, 255, 1, 255));
        for (int cell = 0; cell < 6; cell++) {
            refuseImage(with(good, 2 + 3 * cell, 10));
            refuseImage(with(good, 3 + 3 * cell, 2));
            refuseImage(with(good, 4 + 3 * cell, 100));
        }
        refuseImage(with(good, 2, 255));
        refuseImage(with(good, 3, 255));
        refuseImage(with(good, 4, 255));
        for (int farm = 0; farm < 2; farm++) {
            refuseImage(with(good, last - 1 - farm, 10));
            refuseImage(with(good, last - 1 - farm, 255));
        }
        for (int seal : new int[] {(good[last] + 1) % 251, (good[last] + 250) % 251, 255}) {
            int[] wrong = good.clone();
            wrong[last] = seal;
            refuseBytes(wrong);
        }
        int[] other = good.clone();
        other[2] ^= 1;
        refuseBytes(other);
        refuseBytes(new int[0]);
        refuseBytes(java.util.Arrays.copyOf(good, last));
        refuseImage(java.util.Arrays.copyOf(good, last));
        refuseImage(java.util.Arrays.copyOf(good, last + 2));
        refuseBytes(Check.picture(Check.river("plain 2 by 2;")));
        refuseBytes(Check.picture(Check.river("plain 3 by 3;")));
        CalledRiver river = SentenceCheck.busy();
        Check.lay(river, other);
        river.on();
        check.due("that tape goes, too", river.end(1), false);
        check.refused(5, 0, CalledRiver::new, none -> SentenceCheck.show(none, 0, 0) ? 1 : 0);
        check.due("the check itself: a good one is taken", takes(good), true);
        check.due("YEAR 999", takes(with(good, 0, 3, 1, 231)), true);
        check.due("height 9, wet 99, a stone", takes(with(good, 2, 9, 3, 1, 4, 99)), true);
    }

    /** The bytes, some in other places' stead: a place, a byte, by turns; the last one made anew. */
    private static int[] with(int[] bytes, int... changes) {
        int[] changed = bytes.clone();
        for (int k = 0; k + 1 < changes.length; k += 2) {
            changed[changes[k]] = changes[k + 1];
        }
        return Check.sealed(changed);
    }

    private static boolean takes(int[] bytes) {
        CalledRiver river = SentenceCheck.busy();
        Check.lay(river, bytes);
        return river.on();
    }

    private void refuseImage(int[] bytes) {
        refuseBytes(Check.sealed(bytes));
    }

    private void refuseBytes(int[] bytes) {
        check.refused(5, 0, SentenceCheck::busy, river -> {
            Check.lay(river, bytes);
            return river.on() ? 1 : 0;
        });
    }

    private void status() {
        check.sentence("35",
                "How many were refused: 0 feed(), end(); 1 plain(), see(); 2 spring(), chance(); 3 bake(), dig(), stone(); 4 undo(); 5 seed(), on().");
        SentenceCheck.Call[] calls = {river -> river.end(-1) ? 1 : 0, CalledRiver::plain, CalledRiver::see, river -> river.spring(-1),
            river -> river.chance(0), river -> river.bake(-1, 0) ? 1 : 0, river -> river.dig(-1, 0), river -> river.stone(-1, 0, 0) ? 1 : 0,
            river -> river.undo() ? 1 : 0, river -> river.seed(-1) ? 1 : 0, river -> river.on() ? 1 : 0};
        int[] sorts = {0, 1, 1, 2, 2, 3, 3, 3, 4, 5, 5};
        CalledRiver river = new CalledRiver();
        int[] counts = new int[6];
        for (int round = 0; round < 5; round++) {
            for (int k = 0; k < calls.length; k++) {
                calls[k].on(river);
                counts[sorts[k]]++;
                for (int what = 0; what < 6; what++) {
                    check.due("status " + what, river.status(what), counts[what]);
                }
            }
        }
        river.end(0);
        for (int k = 0; k < 81; k++) {
            river.feed(0, 0, 0, 0, 0);
        }
        check.due("a feed that is refused", river.status(0), counts[0] + 1);
        check.due("of what is taken nothing is counted", SentenceCheck.busy().status(3), 0);
        check.sentence("35", "NONE for others.");
        for (int what : new int[] {-1, 6, 7, FAR, LOW}) {
            check.due("status " + what, river.status(what), NONE);
        }
    }
}

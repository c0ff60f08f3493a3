import java.io.IOException;
import java.util.function.Supplier;

/** A Check whose answers are due by a sentence of the document, which it quotes. */
final class SentenceCheck extends Check {
    static final int FAR = Integer.MAX_VALUE;
    static final int LOW = Integer.MIN_VALUE;
    static final int NONE = CalledRiver.NONE;
    private static final int PROMISES = 35;

    /** A call and its answer, a boolean's as 1 or 0. */
    interface Call {
        long on(CalledRiver river);
    }

    /** Two YEARS' worth of all that can be: heights, stones, pies, KEPT, SEEN, ACTS, an image. */
    static final String BUSY = "plain 2 by 3;high 0 0 3;high 1 0 3;stone 1 2;farm a at 0 1 day 1 pie 5;farm b at 1 1 day 9 pie 4;"
            + "caller l bold 0 kind 0;caller r bold 1 kind 0;goes down*(2*bold-1);bakes pie+1-2*wet;";

    private final Document document = new Document();
    private int callsAhead;
    private boolean begun;

    SentenceCheck() throws IOException { }

    /** All answers from here on are due by these words of that part of the document. */
    void sentence(String part, String words) {
        endSentence();
        under(part + ", \"" + words + "\": ");
        due("these words stand in the document", document.says(part, words), true);
        callsAhead = calls();
        begun = true;
    }

    private void endSentence() {
        if (begun) {
            due("it has a test", calls() > callsAhead, true);
        }
    }

    void endSentences() {
        endSentence();
        under("");
        for (int promise = 1; promise <= PROMISES; promise++) {
            due("promise " + promise + " is quoted", document.isQuoted(Integer.toString(promise)), true);
        }
        for (String part : new String[] {"I", "II", "III", "IV"}) {
            due("part " + part + " of the terms is quoted", document.isQuoted(part), true);
        }
    }

    void printUnquoted() {
        document.unquoted().forEach(System.out::println);
    }

    /** A new river, told this text of so many STATEMENTS. */
    CalledRiver told(String text, int statements) {
        CalledRiver river = new CalledRiver();
        dueTold(river, text, statements);
        return river;
    }

    /** A new river, refusing this text with this FAULT where it has a ^. */
    void fault(int which, String... marked) {
        for (String one : marked) {
            dueFault(new CalledRiver(), which, one);
        }
    }

    void askFault(String plain, int which, String... marked) {
        for (String one : marked) {
            dueAskFault(river(plain), which, one);
        }
    }

    /** A new river of this plain, asked this. */
    void answer(String plain, String question, long answer) {
        dueAnswer(river(plain), question, answer);
    }

    /** The CELLS of a WAY, a column and a row each, and no more. */
    void way(CalledRiver river, int caller, int... want) {
        for (int k = 0; 2 * k < want.length; k++) {
            due("column by STEP " + k, river.way(caller, k, 0), want[2 * k]);
            due("row by STEP " + k, river.way(caller, k, 1), want[2 * k + 1]);
        }
        due("the WAY is over", river.way(caller, want.length / 2, 0), NONE);
        due("how many STEPS", river.leads(caller, 0), want.length / 2 - 1);
    }

    /** The bytes of an image, the last one left to be made. */
    static boolean show(CalledRiver river, int... ahead) {
        lay(river, sealed(java.util.Arrays.copyOf(ahead, ahead.length + 1)));
        return river.on();
    }

    static int see(CalledRiver river, int... bytes) {
        lay(river, bytes);
        return river.see();
    }

    static CalledRiver busy() {
        CalledRiver river = river(BUSY);
        river.spring(0);
        river.bake(1, 2);
        river.dig(0, 0);
        river.chance(3);
        river.stone(1, 1, 1);
        see(river, 0, 0, 0, 1, 0, 1);
        river.image();
        return river;
    }

    /** The call is refused, counted so, and all stays: the same river without it goes on likewise. */
    void refused(int which, long answer, Supplier<CalledRiver> made, Call call) {
        CalledRiver river = made.get();
        CalledRiver other = made.get();
        int[] counts = new int[6];
        for (int what = 0; what < 6; what++) {
            counts[what] = river.status(what);
        }
        due("a refused call", call.on(river), answer);
        for (int what = 0; what < 6; what++) {
            due("status " + what, river.status(what), counts[what] + (what == which ? 1 : 0));
        }
        alike(river, other);
        due("chance", river.chance(5), other.chance(5));
        alike(river, other);
    }

    /** Whether two rivers of one plain tell the same image, KEPT, SEEN, ACTS that can be undone. */
    void alike(CalledRiver river, CalledRiver other) {
        int[] mine = picture(river);
        int[] others = picture(other);
        due("bytes", mine.length, others.length);
        for (int k = 0; k < Math.min(mine.length, others.length); k++) {
            due("byte " + k, mine[k], others[k]);
        }
        for (int what = 0; what <= 10; what++) {
            due("has " + what, river.has(what), other.has(what));
        }
        for (int k = 0; k < 40; k++) {
            for (int what = 0; what < 3; what++) {
                due("kept " + k, river.kept(k, what), other.kept(k, what));
            }
        }
        due("who", river.who(), other.who());
    }
}

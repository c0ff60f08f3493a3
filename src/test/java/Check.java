import java.nio.charset.StandardCharsets;

/** Counts answers that are not as due, and lays texts on the tape. */
class Check {
    private int wrong;
    private int calls;
    private String heading = "";

    /** What is said ahead of each wrong answer from here on. */
    final void under(String newHeading) {
        heading = newHeading;
    }

    final int calls() {
        return calls;
    }

    void due(String what, long got, long want) {
        calls++;
        if (got != want) {
            wrong++;
            System.out.println(heading + what + " answered " + got + ", due is " + want);
        }
    }

    void due(String what, boolean got, boolean want) {
        due(what, got ? 1 : 0, want ? 1 : 0);
    }

    /** Answers of a row of calls, one behind the other. */
    void dueRow(String what, long[] got, long... want) {
        due(what + ", how many", got.length, want.length);
        for (int k = 0; k < Math.min(got.length, want.length); k++) {
            due(what + ", at " + k, got[k], want[k]);
        }
    }

    /** plain() with this text answers so many STATEMENTS, without a FAULT. */
    void dueTold(CalledRiver river, String text, int statements) {
        lay(river, text);
        due("plain() of " + text, river.plain(), statements);
        due("fault(0) of " + text, river.fault(0), 0);
        due("fault(1) of " + text, river.fault(1), CalledRiver.NONE);
    }

    /** plain() with this text answers NONE, with this FAULT where the text has a ^ (which is no part of it). */
    void dueFault(CalledRiver river, int fault, String marked) {
        String text = marked.replace("^", "");
        lay(river, text);
        due("plain() of " + text, river.plain(), CalledRiver.NONE);
        due("fault(0) of " + text, river.fault(0), fault);
        due("fault(1) of " + text, river.fault(1), marked.indexOf('^'));
    }

    void dueAnswer(CalledRiver river, String question, long answer) {
        lay(river, question);
        due("ask() of " + question, river.ask(), answer);
        due("fault(0) of " + question, river.fault(0), 0);
        due("fault(1) of " + question, river.fault(1), CalledRiver.NONE);
    }

    void dueAskFault(CalledRiver river, int fault, String marked) {
        String question = marked.replace("^", "");
        lay(river, question);
        due("ask() of " + question, river.ask(), CalledRiver.NOTHING);
        due("fault(0) of " + question, river.fault(0), fault);
        due("fault(1) of " + question, river.fault(1), marked.indexOf('^'));
    }

    void finish() {
        if (wrong != 0) {
            System.out.println(wrong + " of " + calls + " answers are not as due");
            System.exit(1);
        }
    }

    /** A river whose plain has this text. */
    static CalledRiver river(String text) {
        CalledRiver river = new CalledRiver();
        lay(river, text);
        if (river.plain() == CalledRiver.NONE) {
            throw new IllegalStateException("FAULT " + river.fault(0) + " at " + river.fault(1) + " of " + text);
        }
        return river;
    }

    /** The text is the whole tape. */
    static void lay(CalledRiver river, String text) {
        lay(river, text.getBytes(StandardCharsets.ISO_8859_1));
    }

    static void lay(CalledRiver river, int... bytes) {
        byte[] row = new byte[bytes.length];
        for (int k = 0; k < bytes.length; k++) {
            row[k] = (byte) bytes[k];
        }
        lay(river, row);
    }

    static void lay(CalledRiver river, byte[] bytes) {
        river.end(0);
        for (int from = 0; from < bytes.length; from += 20) {
            int[] five = new int[5];
            for (int k = 0; k < 20; k++) {
                int one = from + k < bytes.length ? bytes[from + k] & 255 : ' ';
                five[k / 4] = five[k / 4] << 8 | one;
            }
            river.feed(five[0], five[1], five[2], five[3], five[4]);
        }
        river.end(bytes.length);
    }

    /** All bytes of the latest image(). */
    static int[] picture(CalledRiver river) {
        int[] bytes = new int[river.image()];
        for (int k = 0; k < bytes.length; k++) {
            bytes[k] = river.octet(k);
        }
        return bytes;
    }

    /** The same bytes with the last one as it must be behind the others. */
    static int[] sealed(int... bytes) {
        int[] row = bytes.clone();
        int check = 173;
        for (int k = 0; k + 1 < row.length; k++) {
            check = (3 * check + row[k]) % 251;
        }
        row[row.length - 1] = check;
        return row;
    }
}

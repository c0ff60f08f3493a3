/** Promises 2 and 3: feed and end. */
public final class TapeTest {
    public static void main(String[] args) {
        Check check = new Check();
        order(check);
        fullTape(check);
        shortened(check);
        goes(check);
        check.finish();
    }

    /** The bytes of each number come the highest first, numbers below 0 too. */
    private static void order(Check check) {
        CalledRiver river = Check.river("plain 2 by 2;");
        // the image of YEAR 0 with 8 zeros and more: height, stone, wet of four CELLS
        int[] image = Check.sealed(3, 0, 9, 1, 99, 8, 0, 98, 7, 1, 97, 6, 0, 96, 0);
        check.due("feed", river.feed(0x03000901, 0x63080062, 0x07016106, 0x00600000 | image[14] << 8, 0), 20);
        check.due("end", river.end(15), true);
        check.due("on", river.on(), true);
        check.due("height", river.cell(0, 0, 0), 9);
        check.due("wet", river.cell(1, 1, 2), 96);
        check.due("feed below 0", river.feed(-1, -2, -3, Integer.MIN_VALUE, 0), 20);
        check.due("end", river.end(1), true);
        check.due("see of one byte 255", river.see(), -1);
    }

    private static void fullTape(Check check) {
        CalledRiver river = new CalledRiver();
        for (int k = 1; k <= 80; k++) {
            check.due("feed", river.feed(0, 0, 0, 0, 0), 20 * k);
        }
        check.due("feed beyond 1600", river.feed(0, 0, 0, 0, 0), -1);
        check.due("status(0)", river.status(0), 1);
        check.due("end(1581)", river.end(1581), true);
        check.due("feed to 1601", river.feed(0, 0, 0, 0, 0), -1);
        check.due("end(1580)", river.end(1580), true);
        check.due("feed to 1600", river.feed(0, 0, 0, 0, 0), 1600);
        check.due("status(0)", river.status(0), 2);
    }

    private static void shortened(Check check) {
        CalledRiver river = new CalledRiver();
        check.due("end(0) of none", river.end(0), true);
        check.due("end(1) of none", river.end(1), false);
        check.due("end(-1)", river.end(-1), false);
        check.due("end(least)", river.end(Integer.MIN_VALUE), false);
        check.due("end(most)", river.end(Integer.MAX_VALUE), false);
        check.due("status(0)", river.status(0), 4);
        river.feed(0, 0, 0, 0, 0);
        check.due("end(20)", river.end(20), true);
        check.due("end(21)", river.end(21), false);
        check.due("end(7)", river.end(7), true);
        check.due("feed behind 7", river.feed(0, 0, 0, 0, 0), 27);
        check.due("status(0)", river.status(0), 5);
    }

    /** plain(), see(), ask(), on() take the tape, whatever they answer. */
    private static void goes(Check check) {
        CalledRiver river = new CalledRiver();
        river.feed(0, 0, 0, 0, 0);
        river.plain();
        check.due("feed behind plain()", river.feed(0, 0, 0, 0, 0), 20);
        river.see();
        check.due("feed behind see()", river.feed(0, 0, 0, 0, 0), 20);
        river.ask();
        check.due("feed behind ask()", river.feed(0, 0, 0, 0, 0), 20);
        river.on();
        check.due("feed behind on()", river.feed(0, 0, 0, 0, 0), 20);
        Check.lay(river, "plain 2 by 2;");
        river.plain();
        check.due("feed behind plain() that is told", river.feed(0, 0, 0, 0, 0), 20);
        river.see();
        check.due("feed behind see()", river.feed(0, 0, 0, 0, 0), 20);
        river.ask();
        check.due("feed behind ask()", river.feed(0, 0, 0, 0, 0), 20);
    }
}

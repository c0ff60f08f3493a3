/** Promises 32 to 35: image, octet, on, status. */
public final class ImageTest {
    private static final int FAR = Integer.MAX_VALUE;
    private static final int LOW = Integer.MIN_VALUE;
    private static final String TEXT = "plain 2 by 2;high 0 0 4;high 1 0 3;stone 1 1;farm a at 0 1 day 1 pie 5;farm b at 1 1 day 1 pie 4;"
            + "caller l bold 0 kind 0;bakes pie+1;";

    public static void main(String[] args) {
        Check check = new Check();
        written(check);
        largest(check);
        latest(check);
        taken(check);
        refusedImages(check);
        noPlain(check);
        counts(check);
        check.finish();
    }

    private static void written(Check check) {
        CalledRiver river = Check.river(TEXT);
        check.due("octet ahead of any", river.octet(0), -1);
        river.spring(0);
        check.due("image", river.image(), 17);
        int[] want = Check.sealed(0, 1, 4, 0, 1, 3, 0, 0, 0, 0, 1, 0, 1, 0, 6, 5, 0);
        for (int k = 0; k < want.length; k++) {
            check.due("octet " + k, river.octet(k), want[k]);
        }
        for (int k : new int[] {-1, 17, FAR, LOW}) {
            check.due("octet " + k, river.octet(k), -1);
        }
        check.due("no act", river.has(10), 1);
    }

    private static void largest(Check check) {
        StringBuilder text = new StringBuilder("plain 6 by 6;caller l bold 0 kind 0;");
        for (int k = 0; k < 6; k++) {
            text.append("farm f").append((char) ('a' + k)).append(" at ").append(k).append(" 5 day 40 pie ").append(k).append(';');
        }
        CalledRiver river = Check.river(text.toString());
        for (int k = 0; k < 3; k++) {
            river.chance(100);
        }
        int[] bytes = Check.picture(river);
        check.due("bytes", bytes.length, 117);
        check.due("the higher byte of YEAR 300", bytes[0], 1);
        check.due("the lower byte of YEAR 300", bytes[1], 44);
        check.due("wet 99", bytes[4], 99);
        check.due("the last pie", bytes[115], 5);
        check.due("the last byte", bytes[116], Check.sealed(bytes)[116]);
    }

    private static void latest(Check check) {
        CalledRiver river = Check.river(TEXT);
        river.image();
        river.bake(0, 9);
        check.due("as it was", river.octet(14), 5);
        river.image();
        check.due("as it is", river.octet(14), 9);
    }

    private static void taken(Check check) {
        CalledRiver river = Check.river(TEXT);
        river.spring(0);
        river.bake(0, 1);
        check.due("a way", river.leads(0, 0), 1);
        Check.lay(river, Check.sealed(3, 231, 9, 1, 99, 0, 0, 0, 0, 0, 98, 9, 0, 1, 9, 0, 0));
        check.due("on", river.on(), true);
        check.due("YEAR", river.has(4), 999);
        check.due("height", river.cell(0, 0, 0), 9);
        check.due("stone", river.cell(0, 0, 1), 1);
        check.due("wet", river.cell(0, 0, 2), 99);
        check.due("no stone there now", river.cell(1, 1, 1), 0);
        check.due("stones", river.has(5), 1);
        check.due("wet", river.cell(0, 1, 2), 98);
        check.due("pie", river.farm(0, 3), 9);
        check.due("pie", river.farm(1, 3), 0);
        check.due("nothing is kept", river.has(8), 0);
        check.due("nothing can be undone", river.has(10), 0);
        check.due("undo", river.undo(), false);
        check.due("no way from a stone", river.leads(0, 0), -1);
        check.due("status(5)", river.status(5), 0);
    }

    private static void refusedImages(Check check) {
        CalledRiver river = Check.river(TEXT);
        river.spring(0);
        int[] good = Check.picture(river);
        int[][] places = {{0, 4}, {1, 0}, {2, 10}, {3, 2}, {4, 100}, {13, 255}, {12, 2}, {11, 10}, {14, 10}, {15, 10}, {15, 255}};
        int refusals = 0;
        for (int[] place : places) {
            int[] bytes = good.clone();
            bytes[place[0]] = place[1];
            boolean fits = place[0] == 1;
            Check.lay(river, Check.sealed(bytes));
            check.due("on with " + place[1] + " at " + place[0], river.on(), fits);
            refusals += fits ? 0 : 1;
        }
        int[] year = good.clone();
        year[0] = 3;
        year[1] = 232;
        int[] unsealed = good.clone();
        unsealed[16] ^= 1;
        int[] shorter = Check.sealed(java.util.Arrays.copyOf(good, 16));
        int[] longer = Check.sealed(java.util.Arrays.copyOf(good, 18));
        for (int[] bytes : new int[][] {Check.sealed(year), unsealed, shorter, longer, {}}) {
            Check.lay(river, bytes);
            check.due("on", river.on(), false);
            refusals++;
        }
        check.due("status(5)", river.status(5), refusals);
        CalledRiver stays = Check.river(TEXT);
        stays.spring(0);
        Check.lay(stays, unsealed);
        stays.on();
        check.due("all stays", stays.has(8), 1);
        check.due("all stays", stays.has(10), 1);
        check.due("all stays", stays.has(4), 1);
    }

    private static void noPlain(Check check) {
        CalledRiver river = new CalledRiver();
        int[] bytes = Check.picture(river);
        check.due("bytes", bytes.length, 3);
        check.due("the last", bytes[2], 51);
        Check.lay(river, bytes);
        check.due("on without a plain", river.on(), false);
        check.due("status(5)", river.status(5), 1);
    }

    private static void counts(Check check) {
        CalledRiver river = new CalledRiver();
        river.end(1);
        river.plain();
        river.plain();
        river.see();
        river.chance(1);
        river.spring(0);
        river.spring(1);
        river.chance(0);
        river.bake(0, 0);
        river.dig(0, 0);
        river.dig(0, 0);
        river.stone(0, 0, 0);
        river.stone(0, 0, 1);
        for (int k = 0; k < 6; k++) {
            river.undo();
        }
        for (int k = 0; k < 6; k++) {
            river.seed(-1 - k);
        }
        river.on();
        river.ask();
        river.kept(0, 0);
        long[] want = {1, 3, 4, 5, 6, 7};
        for (int what = 0; what < want.length; what++) {
            check.due("status " + what, river.status(what), want[what]);
        }
        for (int what : new int[] {-1, 6, FAR, LOW}) {
            check.due("status " + what, river.status(what), -1);
        }
        Check.lay(river, "plain 2 by 2;");
        river.plain();
        check.due("still counted", river.status(5), 7);
    }
}

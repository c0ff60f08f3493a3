import java.util.Random;

/** No call throws or hangs, whatever comes: any numbers, any bytes, texts as deep and as long as the tape. */
public final class RobustTest {
    private static final int[] EDGES = {Integer.MIN_VALUE, -2, -1, 0, 1, 2, 5, 6, 7, 9, 10, 20, 40, 64, 100, 999, 1600, Integer.MAX_VALUE};

    public static void main(String[] args) {
        Check check = new Check();
        for (int run = 0; run < 400; run++) {
            anything(new Random(run));
        }
        longTexts(check);
        check.finish();
    }

    private static void anything(Random random) {
        CalledRiver river = new CalledRiver();
        TextMaker texts = new TextMaker(random);
        for (int k = 0; k < 512; k++) {
            if (random.nextInt(30) == 0) {
                Check.lay(river, random.nextBoolean() ? texts.plain() : texts.question());
            }
            call(river, random.nextInt(35), edge(random), edge(random), edge(random));
        }
    }

    private static int edge(Random random) {
        return random.nextInt(3) == 0 ? random.nextInt(5) : EDGES[random.nextInt(EDGES.length)];
    }

    private static void call(CalledRiver river, int which, int a, int b, int c) {
        switch (which) {
            case 0 -> river.feed(a, b, c, a ^ b, b ^ c);
            case 1 -> river.end(a);
            case 2, 3, 4 -> river.plain();
            case 5 -> river.fault(a);
            case 6 -> river.has(a);
            case 7 -> river.letter(a, b, c);
            case 8 -> river.cell(a, b, c);
            case 9 -> river.farm(a, b);
            case 10 -> river.caller(a, b);
            case 11 -> river.kept(a, b);
            case 12 -> river.way(a, b, c);
            case 13 -> river.leads(a, b);
            case 14 -> river.best();
            case 15 -> river.least(a);
            case 16 -> river.dry();
            case 17 -> river.bid(a, b);
            case 18 -> river.rest(a);
            case 19 -> river.parts(a, b, c);
            case 20 -> river.mill(a);
            case 21 -> river.see();
            case 22 -> river.who();
            case 23 -> river.tells(a);
            case 24 -> river.spring(a);
            case 25 -> river.bake(a, b);
            case 26 -> river.dig(a, b);
            case 27 -> river.stone(a, b, c);
            case 28 -> river.chance(a);
            case 29 -> river.undo();
            case 30 -> river.seed(a);
            case 31 -> river.ask();
            case 32 -> river.image();
            case 33 -> river.octet(a);
            default -> river.on();
        }
    }

    private static void longTexts(Check check) {
        CalledRiver river = Check.river("plain 2 by 2;farm f at 0 1 day 1 pie 1;caller a bold 0 kind 0;");
        String nots = "often " + "not ".repeat(398);
        check.dueAskFault(river, 4, nots.substring(0, 30) + "^" + nots.substring(30));
        check.dueAskFault(river, 4, "total ((((((^" + "(".repeat(1500));
        check.dueAnswer(river, "total 1" + "+1".repeat(796), 797);
        check.dueAnswer(river, "total 2" + "*2".repeat(796), 1000000);
        check.dueAnswer(river, "often all" + " and all".repeat(198), 1);
        check.dueAnswer(river, "often all" + " or all".repeat(220), 1);
        check.dueAnswer(river, "often [[[[0=1 or all and min(1+2*(9-8*1),5)=3+2*(2-2)]]]]", 1);
        check.dueTold(river, "plain 2 by 2;caller a bold 0 kind 0;goes 0" + "+1".repeat(770) + ";", 3);
        check.due("the first of like ones each time", river.leads(0, 0), 2);
    }
}

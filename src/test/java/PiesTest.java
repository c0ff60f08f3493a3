/** Promises 17 to 20: bid, rest, parts, mill. */
public final class PiesTest {
    private static final int FAR = Integer.MAX_VALUE;
    private static final int LOW = Integer.MIN_VALUE;
    private static final String TWO_FARMS = "plain 3 by 3;source 1;farm a at 0 0 day 9 pie 1;farm b at 2 1 day 9 pie 2;"
            + "caller s bold 0 kind 0;caller k bold 0 kind 9;goes kind*pie-down;";
    /** Both go round, one to the left, one, for the pie, to the right; both end in a LAKE where the other began. */
    private static final String ROUNDS = "plain 3 by 3;source 1;farm f at 2 0 day 9 pie 9;caller a bold 0 kind 0;"
            + "caller b bold 0 kind 9;caller c bold 5 kind 0;goes kind*pie;";

    public static void main(String[] args) {
        Check check = new Check();
        bids(check);
        bidsOfDays(check);
        rests(check);
        restsOfNone(check);
        partings(check);
        alike(check);
        mills(check);
        check.finish();
    }

    private static void bids(Check check) {
        CalledRiver river = Check.river(TWO_FARMS);
        check.due("s is not kind", river.bid(0, 0), -1);
        check.due("s is not kind", river.bid(1, 0), -1);
        check.due("a by k", river.bid(0, 1), 1);
        check.due("b by k", river.bid(1, 1), -1);
        check.due("the pies stay", river.has(7), 3);
        check.due("the way stays", river.leads(1, 2), 1);
        check.due("no act", river.has(10), 0);
        river.bake(0, 0);
        check.due("b by k without a's", river.bid(1, 1), 1);
        int[][] none = {{2, 0}, {0, 2}, {-1, 0}, {0, -1}, {FAR, FAR}, {LOW, LOW}};
        for (int[] one : none) {
            check.due("bid of none", river.bid(one[0], one[1]), -1);
        }
        river.stone(1, 0, 1);
        check.due("bid without a way", river.bid(1, 1), -1);
    }

    /** A FARM below is watered in any case, one beside only if it outbids the way down. */
    private static void bidsOfDays(Check check) {
        String text = "plain 2 by 3;farm a at 1 0 day 1 pie 0;farm b at 1 1 day 2 pie 4;farm c at 0 1 day 9 pie 0;caller k bold 0 kind 0;"
                + "goes pie-6*down;";
        CalledRiver river = Check.river(text);
        check.due("a, first of like ones", river.bid(0, 0), 6);
        check.due("b, first of like ones", river.bid(1, 0), 6);
        check.due("c", river.bid(2, 0), 0);
        check.due("a, 9 at the most", Check.river(text.replace("-6*", "-9*")).bid(0, 0), 9);
        check.due("a, 10 would do", Check.river(text.replace("-6*", "-10*")).bid(0, 0), -1);
        CalledRiver late = Check.river(text.replace("day 2", "day 1"));
        check.due("b, a day late", late.bid(1, 0), -1);
    }

    private static void rests(Check check) {
        CalledRiver river = Check.river(TWO_FARMS);
        check.due("nobody by s", river.rest(0), 0);
        check.due("a by k", river.rest(1), 1);
        river.bake(0, 0);
        check.due("b keeps its pie, a has none either way", river.rest(1), 3);
        river.bake(0, 1);
        river.bake(1, 0);
        check.due("a, and b that has none", river.rest(1), 3);
        check.due("b that has none", river.rest(0), 2);
        check.due("the pies stay", river.has(7), 1);
        CalledRiver either = Check.river("plain 3 by 3;source 1;farm a at 0 0 day 5 pie 1;farm b at 2 0 day 5 pie 1;caller k bold 0 kind 0;"
                + "goes 9*pie+down*(step-3);");
        check.due("either one's pie waters both: the least bits", either.rest(0), 1);
        check.due("a pie of 9 where one is watered without", Check.river(
                "plain 2 by 2;farm a at 0 1 day 1 pie 9;caller b bold 0 kind 0;").rest(0), 0);
    }

    private static void restsOfNone(Check check) {
        CalledRiver river = Check.river(TWO_FARMS);
        for (int caller : new int[] {2, -1, FAR, LOW}) {
            check.due("rest by none", river.rest(caller), -1);
        }
        river.stone(1, 0, 1);
        check.due("rest without a way", river.rest(0), -1);
        check.due("rest without farms", Check.river("plain 2 by 2;caller a bold 0 kind 0;").rest(0), 0);
        // without pies a is watered; so b gives one, then a, then b's is in vain, then a's is not needed
        CalledRiver chase = Check.river("plain 3 by 2;source 1;farm a at 0 0 day 3 pie 1;farm b at 2 0 day 3 pie 1;"
                + "caller k bold 0 kind 0;goes pie;");
        check.due("no set is at rest", chase.rest(0), -1);
    }

    private static void partings(Check check) {
        CalledRiver river = Check.river(ROUNDS);
        check.due("they part at once", river.parts(0, 1, 0), 0);
        check.due("they meet by steps of a", river.parts(0, 1, 1), 0);
        check.due("they meet by steps of a", river.parts(0, 1, 2), 0);
        check.due("they meet by steps of b", river.parts(1, 0, 1), 2);
        check.due("they meet by steps of b", river.parts(1, 0, 2), 0);
        CalledRiver apart = Check.river(TWO_FARMS);
        check.due("they part", apart.parts(0, 1, 0), 0);
        check.due("they do not meet", apart.parts(0, 1, 1), -1);
        check.due("they do not meet", apart.parts(1, 0, 2), -1);
        CalledRiver later = Check.river("plain 2 by 4;stone 1 0;caller a bold 0 kind 0;caller b bold 1 kind 0;goes 2*bold*down-down;");
        check.due("they part behind step 1", later.parts(0, 1, 0), 1);
        check.due("they meet", later.parts(0, 1, 1), 0);
        check.due("they meet", later.parts(0, 1, 2), 2);
    }

    private static void alike(Check check) {
        CalledRiver river = Check.river(ROUNDS);
        for (int what = 0; what < 3; what++) {
            check.due("alike to the end", river.parts(0, 2, what), -1);
            check.due("one", river.parts(1, 1, what), -1);
            check.due("none such", river.parts(0, 3, what), -1);
            check.due("none such", river.parts(-1, 0, what), -1);
            check.due("none such", river.parts(FAR, LOW, what), -1);
        }
        for (int what : new int[] {3, -1, FAR, LOW}) {
            check.due("what that is none", river.parts(0, 1, what), -1);
        }
        river.stone(1, 0, 1);
        check.due("without a way", river.parts(0, 1, 0), -1);
    }

    private static void mills(Check check) {
        CalledRiver river = Check.river(ROUNDS);
        check.due("column, the first of like ones", river.mill(0), 0);
        check.due("row", river.mill(1), 0);
        check.due("on all ways", river.mill(2), 3);
        for (int what : new int[] {3, -1, FAR, LOW}) {
            check.due("what that is none", river.mill(what), -1);
        }
        CalledRiver most = Check.river("plain 2 by 4;stone 1 0;caller a bold 0 kind 0;caller b bold 1 kind 0;goes 2*bold*down-down;");
        check.due("row of the first on both", most.mill(1), 1);
        check.due("on both", most.mill(2), 2);
        most.stone(0, 1, 1);
        for (int what = 0; what < 3; what++) {
            check.due("the source alone", most.mill(what), -1);
            check.due("without callers", Check.river("plain 2 by 2;").mill(what), -1);
        }
        most.stone(0, 0, 1);
        check.due("without a way", most.mill(2), -1);
    }
}

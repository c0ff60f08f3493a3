/** Promises 4 and 5: plain and fault. */
public final class PlainTest {
    private static final String HEAD = "plain 3 by 4;";

    public static void main(String[] args) {
        Check check = new Check();
        toldTexts(check);
        noSuchText(check);
        glued(check);
        badNumbers(check);
        takenNames(check);
        tooDeep(check);
        tooMany(check);
        faultStays(check);
        allStays(check);
        allAnew(check);
        check.finish();
    }

    private static void toldTexts(Check check) {
        CalledRiver river = new CalledRiver();
        check.dueTold(river, "plain 2 by 6;", 1);
        check.dueTold(river, " \n plain\n6   by 2 ; \n ", 1);
        check.dueTold(river, "plain 0006 by 02;", 1);
        check.dueTold(river, HEAD + "high 2 3 9;high 2 3 1;source 2;source 0;stone 2 3;farm last at 2 3 day 40 pie 0;", 7);
        check.due("the last height counts", river.cell(2, 3, 0), 1);
        check.due("the last source counts", river.has(6), 0);
        check.dueTold(river, HEAD + "goes min(max(bold,kind),height)*down/step-(year+pie)+been;bakes wet*9-pie/been+year;", 3);
        check.dueTold(river, HEAD + "goes 9999;bakes((((((1))))));", 3);
        check.dueTold(river, HEAD + "farm often at 0 0 day 1 pie 9;caller total bold 9 kind 0;caller a bold 0 kind 9;", 4);
        check.dueTold(river, HEAD + "high 0 0 1;".repeat(79), 80);
        check.dueTold(river, HEAD + "high 0 0 1;".repeat(79) + " \n", 80);
    }

    private static void noSuchText(Check check) {
        CalledRiver river = new CalledRiver();
        for (String marked : new String[] {"^", "   \n^", "^;", "^plan 3 by 3;", "^plains 3 by 3;", "^Plain 3 by 3;", "^high 0 0 1;",
            "^3 by 3;", "^pla\tin 3", "plain^\t3 by 3;", "plain^", "plain ^by", "plain 3 ^at 3;", "plain 3 by^", "plain 3 by 3 ^", "plain 3 by 3 ^3;",
            "plain 3 by 3^,", "plain 1234^5 by 3;", "plain 3 by 3;^x", "plain 3 by 3;^plain 3 by 3;", "plain 3 by 3;^;", "plain 3 by 3;^by",
            "plain 3 by 3;^first", "plain 3 by 3;high 0 0 5 ^high", "plain 3 by 3;high 0 0 ^;", "plain 3 by 3;farm ^3", "plain 3 by 3;farm ^at at 0 0", "plain 3 by 3;caller ^bold bold 0",
            "plain 3 by 3;farm ^column at", "plain 3 by 3;farm abcdef^g at", "plain 3 by 3;farm column^s", "plain 3 by 3;farm a ^by",
            "plain 3 by 3;farm a at 0 0 ^pie", "plain 3 by 3;farm a at 0 0 day 1 ^;", "plain 3 by 3;caller ^all",
            "plain 3 by 3;caller a ^kind", "plain 3 by 3;caller a bold 1 ^;", "plain 3 by 3;source^", "plain 3 by 3;goes ^;",
            "plain 3 by 3;goes ^-1;", "plain 3 by 3;goes 1+^;", "plain 3 by 3;goes 1234^5;", "plain 3 by 3;goes ^wet;",
            "plain 3 by 3;bakes ^bold;", "plain 3 by 3;bakes ^height;", "plain 3 by 3;bakes ^step;", "plain 3 by 3;goes ^number;",
            "plain 3 by 3;goes (1^;", "plain 3 by 3;goes 1^);", "plain 3 by 3;goes min ^1;", "plain 3 by 3;goes min(1^);",
            "plain 3 by 3;goes max(1,2^,3);", "plain 3 by 3;goes ^first;", "plain 3 by 3;goes 1 ^2;", "plain 3 by 3;goes 1 ^<2;",
            "plain 3 by 3;high 0000^0 0 1;", "plain 3 by 3;farm a^A at", "plain 3 by 3;high 0 0 1^"}) {
            check.dueFault(river, 1, marked);
        }
    }

    /** Words and numbers side by side need a blank. */
    private static void glued(Check check) {
        CalledRiver river = new CalledRiver();
        check.dueFault(river, 1, "plain^3 by 3;");
        check.dueFault(river, 1, "plain^9 by 3;");
        check.dueFault(river, 1, "plain 3^by 3;");
        check.dueFault(river, 2, "plain ^9by 3;");
        check.dueFault(river, 1, "plain 3 by^3;");
        check.dueFault(river, 1, "plain 3 by 3;farm a^1");
        check.dueFault(river, 1, "plain 3 by 3;farm^1");
        check.dueFault(river, 1, "plain 3 by 3;goes 1^bold;");
        check.dueTold(river, "plain 3 by 3;goes(1)+bold*2-min(3,down)/down;", 2);
    }

    private static void badNumbers(Check check) {
        CalledRiver river = new CalledRiver();
        for (String marked : new String[] {"plain ^1 by 3;", "plain ^7 by 3;", "plain 3 by ^1;", "plain 3 by ^7", HEAD + "high ^3 0 0;",
            HEAD + "high 0 ^4 0;", HEAD + "high 2 3 ^10;", HEAD + "stone ^3 0;", HEAD + "stone 2 ^4;", HEAD + "stone 1 1;stone 1 ^1;",
            HEAD + "source ^3;", HEAD + "farm a at ^3 0", HEAD + "farm a at 2 ^4", HEAD + "farm a at 0 0 day ^0", HEAD + "farm a at 0 0 day ^41",
            HEAD + "farm a at 0 0 day 1 pie ^10", HEAD + "farm a at 1 2 day 1 pie 0;farm b at 1 ^2", HEAD + "caller a bold ^10",
            HEAD + "caller a bold 0 kind ^10", HEAD + "high ^9999 9999 9999"}) {
            check.dueFault(river, 2, marked);
        }
        check.dueTold(river, HEAD + "stone 1 1;farm a at 1 1 day 1 pie 0;stone 1 2;", 4);
        check.dueTold(river, HEAD + "farm a at 1 1 day 1 pie 0;stone 1 1;", 3);
    }

    private static void takenNames(Check check) {
        CalledRiver river = new CalledRiver();
        check.dueFault(river, 3, HEAD + "farm a at 0 0 day 1 pie 1;farm ^a at 0 0");
        check.dueFault(river, 3, HEAD + "farm a at 0 0 day 1 pie 1;caller ^a");
        check.dueFault(river, 3, HEAD + "caller abcdef bold 0 kind 0;caller ^abcdef bold 10");
        check.dueFault(river, 3, HEAD + "caller b bold 0 kind 0;farm ^b");
        check.dueFault(river, 1, HEAD + "caller abcdef bold 0 kind 0;caller abcdef^f bold 10");
        check.dueTold(river, HEAD + "caller ab bold 0 kind 0;caller a bold 0 kind 0;caller ba bold 0 kind 0;", 4);
    }

    private static void tooDeep(Check check) {
        CalledRiver river = new CalledRiver();
        check.dueFault(river, 4, HEAD + "goes ((((((^(1)))))));");
        check.dueFault(river, 4, HEAD + "bakes ((((((^(");
        check.dueFault(river, 4, HEAD + "goes min(max(min(1,min(2,min((2),(max^(1");
        check.dueTold(river, HEAD + "goes ((((((1))))))*((((((1))))))+min(1,max(2,(((min(1,2))))));", 2);
    }

    private static void tooMany(Check check) {
        CalledRiver river = new CalledRiver();
        StringBuilder farms = new StringBuilder(HEAD);
        for (int k = 0; k < 6; k++) {
            farms.append("farm f").append((char) ('a' + k)).append(" at ").append(k % 3).append(' ').append(k / 3).append(" day 1 pie 1;");
        }
        check.dueTold(river, farms.toString(), 7);
        check.dueFault(river, 5, farms + " ^farm");
        StringBuilder callers = new StringBuilder(HEAD);
        for (int k = 0; k < 5; k++) {
            callers.append("caller c").append((char) ('a' + k)).append(" bold 1 kind 1;");
        }
        check.dueTold(river, callers.toString(), 6);
        check.dueFault(river, 5, callers + "^caller ca");
        check.dueFault(river, 5, HEAD + "goes 1;bakes 1;^goes ;");
        check.dueFault(river, 5, HEAD + "bakes 1;goes 1;^bakes wet;");
        String full = HEAD + "high 0 0 1;".repeat(79);
        for (String behind : new String[] {"^high 0 0 1;", " \n^@", "^;", "^plain", "^12345", "^high 9"}) {
            check.dueFault(river, 5, full + behind);
        }
    }

    private static void faultStays(Check check) {
        CalledRiver river = new CalledRiver();
        check.due("fault(2)", river.fault(2), -1);
        check.due("fault(-1)", river.fault(-1), -1);
        check.dueFault(river, 2, "plain ^9");
        river.spring(0);
        river.see();
        river.on();
        check.due("fault(0)", river.fault(0), 2);
        Check.lay(river, "often all");
        check.due("ask() without a plain", river.ask(), CalledRiver.NOTHING);
        check.due("fault(0) as ask() did nothing else", river.fault(0), 2);
        check.due("fault(1)", river.fault(1), 6);
        check.due("fault(3)", river.fault(3), -1);
        check.dueTold(river, HEAD, 1);
    }

    private static final String WHOLE = HEAD + "high 0 0 4;stone 2 2;source 1;farm a at 1 1 day 2 pie 3;caller b bold 1 kind 2;bakes pie+1;";

    /** With a FAULT all stays. */
    private static void allStays(Check check) {
        CalledRiver river = Check.river(WHOLE);
        river.spring(0);
        river.dig(0, 0);
        Check.lay(river, 0, 1, 0);
        river.see();
        int[] before = Check.picture(river);
        check.dueFault(river, 1, "plain 2 by 2;high 0 0 9;stone 0 0;farm b at 0 0 day 1 pie 1;goes 5;bakes 0;^x");
        check.dueRow("image", longs(Check.picture(river)), longs(before));
        check.due("columns", river.has(0), 3);
        check.due("source", river.has(6), 1);
        check.due("KEPT", river.has(8), 1);
        check.due("SEEN", river.has(9), 1);
        check.due("ACTS", river.has(10), 2);
        check.due("letter", river.letter(0, 0, 0), 1);
        check.due("spring", river.spring(0), 1);
        check.due("pie", river.farm(0, 3), 5);
        check.due("status(1)", river.status(1), 1);
    }

    /** Without one all is as at first; the seed and the latest image stay. */
    private static void allAnew(Check check) {
        CalledRiver river = Check.river(WHOLE);
        int[] first = Check.picture(river);
        river.chance(3);
        river.stone(0, 3, 1);
        Check.lay(river, 0, 1, 0);
        river.see();
        Check.lay(river, "plain 2 by 2;caller a bold 0 kind 0;caller b bold 0 kind 0;caller c bold 0 kind 0;");
        river.image();
        int latest = river.octet(3 + 36);
        check.due("steps", river.leads(0, 0), 3);
        check.due("plain", river.plain(), 4);
        check.due("steps of the new way", river.leads(0, 0), 1);
        check.due("octet of the latest image", river.octet(3 + 36), latest);
        for (int what : new int[] {2, 4, 5, 6, 7, 8, 9, 10}) {
            check.due("has " + what, river.has(what), 0);
        }
        Check.lay(river, WHOLE);
        river.plain();
        check.dueRow("image", longs(Check.picture(river)), longs(first));
        check.due("undo", river.undo(), false);
    }

    private static long[] longs(int[] row) {
        long[] all = new long[row.length];
        for (int k = 0; k < row.length; k++) {
            all[k] = row[k];
        }
        return all;
    }
}

/** Promise 31 (and 5): ask, its answers and its FAULTS. */
public final class AskTest {
    /** Caller 0 goes down by the left column: a by STEP 1, c by STEP 2; caller 1 to the right: b by STEP 2. */
    private static final String TEXT = "plain 2 by 3;high 0 0 3;high 1 0 3;high 0 1 2;high 1 1 1;"
            + "farm a at 0 1 day 1 pie 5;farm b at 1 1 day 1 pie 4;farm c at 0 2 day 2 pie 0;"
            + "caller l bold 0 kind 0;caller r bold 1 kind 0;goes 2*bold*down*(2-step)-down;bakes pie;";

    public static void main(String[] args) {
        Check check = new Check();
        kinds(check);
        facts(check);
        byCallers(check);
        sums(check);
        tests(check);
        withoutFarms(check);
        withoutWay(check);
        noSuchText(check);
        tooDeep(check);
        withoutPlain(check);
        check.finish();
    }

    private static void dueAll(Check check, CalledRiver river, String... pairs) {
        for (int k = 0; k + 1 < pairs.length; k += 2) {
            check.dueAnswer(river, pairs[k], Long.parseLong(pairs[k + 1]));
        }
    }

    private static void kinds(Check check) {
        CalledRiver river = Check.river(TEXT);
        dueAll(check, river, "first all", "0", "last all", "2", "often all", "3", "total pie", "9", "most pie", "5", "least pie", "0",
                "first pie<5", "1", "last pie>3", "1", "often pie=4", "1", "first pie>9", "-1", "last pie>9", "-1", "often pie>9", "0",
                "most 0-pie-1", "-1", "least 0-pie", "-5", "first not all", "-1", "total 9999*9999", "3000000",
                " \n often\n all ", "3", "last row=1", "1");
    }

    private static void facts(Check check) {
        CalledRiver river = Check.river(TEXT);
        dueAll(check, river, "total number", "3", "most number", "2", "total column", "1", "total row", "4", "total day", "4",
                "total height", "3", "most height", "2", "total been", "0", "total year", "0");
        river.spring(0);
        dueAll(check, river, "total been", "2", "first been=0", "1", "total year", "3", "most year*10+been", "11");
        river.dig(0, 1);
        river.bake(2, 9);
        dueAll(check, river, "total height", "2", "last pie=9", "2");
        check.due("no act", river.has(10), 3);
    }

    private static void byCallers(Check check) {
        CalledRiver river = Check.river(TEXT);
        dueAll(check, river, "often wet 0=1", "2", "first wet 0=0", "1", "often wet 1=1", "0", "total wet 2", "0", "total wet 9", "0",
                "total wet (0-1)", "0", "total step 0", "2", "least step 0", "-1", "most step 0", "2", "total step 1", "0", "most step 1", "2",
                "total step 2", "-3", "total step 9999", "-3", "total step (0-1)", "-3", "total wet wet 0", "0", "total wet number", "1",
                "total step min(0,number)", "2", "total wet 0*10+wet 1", "20", "often step 1>day", "1", "total step (1-1)", "2");
        river.stone(0, 1, 1);
        dueAll(check, river, "often wet 0=1", "0", "first step 0=2", "1", "most step 0", "2");
    }

    private static void sums(Check check) {
        CalledRiver river = Check.river(TEXT);
        dueAll(check, river, "most 10-2-3", "5", "most 2+3*4", "14", "most (2+3)*4", "20", "most 100/10/5", "2", "most 7/2", "3",
                "most (0-7)/2", "-4", "most 7/(0-2)", "-4", "most (0-7)/(0-2)", "3", "most 7/0", "0", "most 0/7", "0", "most 2*7/4", "3",
                "most 7/4*2", "2", "most 9999*101", "1000000", "most 0-9999*101", "-1000000", "most 9999*100+100", "1000000",
                "most 9999*100+101", "1000000", "most 9999*100+99", "999999", "most 0-9999*100-200", "-1000000", "most (0-9999)*9999", "-1000000",
                "most 9999*9999*0", "0", "most 9999*9999-1", "999999", "most min(3,2)", "2", "most max(3,2)", "3", "most max(0-3,0-2)", "-2",
                "most min (1+1 , 2*2)", "2", "most 0012", "12");
    }

    private static void tests(Check check) {
        CalledRiver river = Check.river(TEXT);
        dueAll(check, river, "often number=0 or number=1 and pie=0", "1", "often [number=0 or number=1] and pie=0", "0",
                "often not number=0", "2", "often not number=0 and pie=0", "1", "often not [number=0 or pie=0]", "1",
                "often not not all", "3", "often all and all or not all", "3", "often all and not all", "0", "often 1<2", "3", "often 2<2", "0",
                "often 2>1", "3", "often 2>2", "0", "often 2=2", "3", "often(1)<(2)", "3", "first[all]", "0", "first not[pie>4]", "1",
                "often number=0 or number=1 or number=2", "3", "often number>0 and number<2 and pie=4", "1");
    }

    private static void withoutFarms(Check check) {
        CalledRiver river = Check.river("plain 2 by 2;caller a bold 0 kind 0;");
        dueAll(check, river, "first all", "-1", "last all", "-1", "often all", "0", "total 5", "0", "most 5", "0", "least 5", "0");
        check.dueAskFault(river, 1, "often ^x");
    }

    private static void withoutWay(Check check) {
        CalledRiver river = Check.river(TEXT + "stone 0 0;");
        dueAll(check, river, "total wet 0", "0", "total step 0", "-3", "often all", "3");
    }

    private static void noSuchText(Check check) {
        CalledRiver river = Check.river(TEXT);
        for (String marked : new String[] {"^", "  ^", "^x", "^firsts all", "^all", "^9", "first^", "first ^x", "first ^first", "often^",
            "often all ^all", "often all ^;", "often all^;", "often pie^", "often pie ^", "often pie ^pie", "often pie <^", "often pie < ^and",
            "often pie=1^=1", "often pie ^or all", "often all or^", "often all and ^or", "often [all^", "often [all^)",
            "often (^all)", "often not^", "often ^]", "often all^]", "often all^<1", "total^", "total ^all", "total ^not 1",
            "total 1^<2", "total 1+^", "total ^-1", "total (1^", "total 1^)", "total min ^1", "total min(1^)", "total max(1,2^,3)", "total wet^",
            "total wet ^all", "total step ^+1", "total ^bold", "total ^kind", "total ^down", "total column^2",
            "total 1234^5", "total ^wets 1", "total wet^1", "total 1^pie", "total pie ^1", "total ^Pie", "total 1 ^2", "total 1^\t", "total ^\0",
            "total 1 ^and 1", "most ^", "least 1 ^or", "often all ^step"}) {
            check.dueAskFault(river, 1, marked);
        }
        check.due("not refused", river.status(1), 0);
    }

    private static void tooDeep(Check check) {
        CalledRiver river = Check.river(TEXT);
        dueAll(check, river, "total ((((((1))))))", "3", "often not not not not not not all", "3", "often [[[[[[all]]]]]]", "3",
                "total wet wet wet wet wet wet 0", "0", "often not [not [not (1)=1]]", "0", "total min(1,(((((1))))))+((((((1))))))", "6",
                "often not not not not not not all and not not not not not not all", "3", "total step(step(step(1-1)))-step(step(step(1-1)))", "0");
        for (String marked : new String[] {"total ((((((^(1)))))))", "often not not not not not not ^not all", "often [[[[[[^[all]]]]]]]",
            "total wet wet wet wet wet wet ^wet 0", "total step step step step step step ^step 0", "often not [not [not (^(1))=1]]",
            "total min((((((max^(1,2)))))))", "often [not [not [not ^(1)=1]]]", "often [not [(wet step ^wet", "total ((((((^("}) {
            check.dueAskFault(river, 4, marked);
        }
    }

    private static void withoutPlain(Check check) {
        CalledRiver river = new CalledRiver();
        Check.lay(river, "often");
        check.due("ask", river.ask(), CalledRiver.NOTHING);
        check.due("fault(0)", river.fault(0), 0);
        check.due("fault(1)", river.fault(1), -1);
        check.due("the tape is gone", river.end(1), false);
    }
}

/** Terms, part IV: QUESTIONS, their FAULTS, AN IMAGE. */
final class QuestionEdges {
    private static final int NONE = CalledRiver.NONE;
    /** l goes down by the left column: a by STEP 1, c by STEP 2; r to the right: b by STEP 2, a day late. */
    private static final String PLAIN = "plain 2 by 3;high 0 0 3;high 1 0 3;high 0 1 2;high 1 1 1;"
            + "farm a at 0 1 day 1 pie 5;farm b at 1 1 day 1 pie 4;farm c at 0 2 day 2 pie 0;"
            + "caller l bold 0 kind 0;caller r bold 1 kind 0;goes 2*bold*down*(2-step)-down;bakes pie;";
    private static final String NO_FARMS = "plain 2 by 2;caller l bold 0 kind 0;";

    private final SentenceCheck check;

    QuestionEdges(SentenceCheck check) {
        this.check = check;
    }

    void all() {
        tests();
        sums();
        holds();
        facts();
        words();
        whatWordsSay();
        callersThatAreNot();
        noSuchText();
        behindIt();
        openAtOnce();
        image();
        sealed();
    }

    private void dueAll(String plain, String... pairs) {
        for (int k = 0; k + 1 < pairs.length; k += 2) {
            check.answer(plain, pairs[k], Long.parseLong(pairs[k + 1]));
        }
    }

    private void tests() {
        check.sentence("IV", "first TEST, last TEST (the first, the last FARM for which it holds), often TEST (for how many)");
        dueAll(PLAIN, "first all", "0", "last all", "2", "often all", "3", "first pie<5", "1", "last pie>0", "1", "often pie>0", "2",
                "first pie=0", "2", "last pie=5", "0", "often pie=9", "0", "first pie=9", "-1", "last pie=9", "-1");
        dueAll(NO_FARMS, "first all", "-1", "last all", "-1", "often all", "0", "often not all", "0");
    }

    private void sums() {
        check.sentence("IV", "total SUM (of all together), most SUM, least SUM (the greatest, the least of all; 0 without FARMS)");
        dueAll(PLAIN, "total pie", "9", "most pie", "5", "least pie", "0", "total 0-pie", "-9", "most 0-pie", "0", "least 0-pie", "-5",
                "most 0-pie-1", "-1", "least pie+1", "1", "total 9999*9999", "3000000", "total 0-9999*9999", "-3000000", "most 9999*9999", "1000000",
                "least 0-9999*9999", "-1000000");
        dueAll(NO_FARMS, "total 7", "0", "most 7", "0", "least 7", "0", "most 0-7", "0", "least 0-7", "0");
        dueAll("plain 2 by 2;farm a at 0 0 day 1 pie 3;", "total pie", "3", "most pie", "3", "least pie", "3", "most 0-pie", "-3", "least 0-pie", "-3");
    }

    private void holds() {
        check.sentence("IV", "TEST: BOTH { or BOTH }. BOTH: FACT { and FACT }.");
        dueAll(PLAIN, "often number=0 or number=1 and pie=0", "1", "often number=1 and pie=0 or number=0", "1",
                "often [number=0 or number=1] and pie=0", "0",
                "often all or all and not all", "3", "often not all and all or all", "3", "often not all or not all", "0",
                "often all and all and not all", "0",
                "often not all or not all or number=2", "1");
        check.askFault(PLAIN, 1, "often all or^", "often all and^", "often ^or all", "often ^and all", "often all or ^and all", "often all and ^or all");
    }

    private void facts() {
        check.sentence("IV", "FACT: not FACT; [ TEST ] ; all; SUM SIGN SUM, SIGN < or > or = .");
        dueAll(PLAIN, "often not all", "0", "often not not all", "3", "often not number=0 and all", "2", "often not [number=0 and all]", "2",
                "often [all]", "3",
                "often [number=0 or number=2]", "2", "often 1<2", "3", "often 2<2", "0", "often 3<2", "0", "often 1>2", "0", "often 2>2", "0",
                "often 3>2", "3",
                "often 1=2", "0", "often 2=2", "3", "often 3=2", "0", "often 1+1<1+2", "3", "often (1)=(1)", "3", "often 0-1<0", "3");
        check.askFault(PLAIN, 1, "often not^", "often [^]", "often [all^", "often [all^)", "often pie^", "often pie ^all", "often 1<^", "often 1<2^<3",
                "often 1<^=2", "often 1=^=1", "often (1^<2)", "often (^", "often all^=1", "often [all]^=1", "often not ^and");
    }

    private void words() {
        check.sentence("IV",
                "SUM as in I, but PART: N; number; column; row; day; pie; been; year; height; wet PART; step PART; ( SUM ) ; min ( SUM , SUM ) ;"
                + " max ( SUM , SUM ) .");
        for (String word : "number column row day pie been year height".split(" ")) {
            dueAll(PLAIN, "total 0*" + word, "0");
        }
        for (String word : ("plain by high stone source farm at caller bold kind goes bakes down first or and not all last often total most least x zzzzzzz"
                + " numbers pi").split(" ")) {
            check.askFault(PLAIN, 1, "total ^" + word, "total 1+^" + word, "total wet ^" + word);
        }
        dueAll(PLAIN, "total wet 0", "2", "total step 0", "2", "total wet(0)", "2", "total wet min(0,1)", "2", "total step max(0,1)", "0",
                "total wet wet 0", "0",
                "total wet 0+1", "5", "total wet (0+1)", "0", "total wet 0*2", "4", "most 9999", "9999", "most 0009", "9", "most min(2,1)", "1",
                "most max(2,1)", "2");
        check.askFault(PLAIN, 1, "total wet^", "total step^", "total wet ^+1", "total step ^)", "total wet ^-1", "total 1234^5", "total wet 1234^5",
                "total 0000^0");
        dueAll(PLAIN, "most 10-2-3", "5", "most 2+3*4", "14", "most 7/2", "3", "most (0-7)/2", "-4", "most 7/0", "0", "most 9999*101", "1000000",
                "least 0-9999*101", "-1000000");
    }

    private void whatWordsSay() {
        check.sentence("IV",
                "(The FARM's number, place; how often its CELL was wet, how high it is; 1 if the CALLER of that number would water it now, else 0;"
                + " by which STEP his WAY comes to it, -1 if it does not:");
        dueAll(PLAIN, "first number=0", "0", "first number=2", "2", "often number=3", "0", "total 100*column+10*row", "140", "first column=1", "1",
                "first row=2", "2",
                "total height", "3", "first height=2", "0", "first height=0", "2", "total been", "0", "total year", "0", "total day", "4");
        dueAll(PLAIN, "first wet 0=0", "1", "often wet 0=1", "2", "often wet 1=1", "0", "first step 0=1", "0", "first step 0=2", "2",
                "first step 0=0-1", "1",
                "first step 1=2", "1", "often step 1=0-1", "2");
        CalledRiver river = Check.river(PLAIN + "farm s at 0 0 day 1 pie 0;");
        check.dueAnswer(river, "first step 0=0", 3);
        check.dueAnswer(river, "last wet 1=1", 3);
        river.spring(0);
        river.spring(0);
        check.dueAnswer(river, "total been", 6);
        check.dueAnswer(river, "first been=0", 1);
        check.dueAnswer(river, "most year", 2);
        river.stone(0, 1, 1);
        check.dueAnswer(river, "often wet 0=1", 1);
        check.dueAnswer(river, "first step 0=2", 1);
    }

    private void callersThatAreNot() {
        check.sentence("IV", "of those that there are not 0, -1.)");
        for (String whose : new String[] {"2", "4", "5", "6", "9999", "(0-1)", "(0-9999)", "(9999*9999)", "(0-9999*9999)"}) {
            dueAll(PLAIN, "total wet " + whose, "0", "total step " + whose, "-3");
        }
        dueAll(PLAIN, "total wet number", "1", "total step number", "2");
        dueAll(PLAIN + "stone 0 0;", "total wet 0", "0", "total step 0", "-3");
        dueAll("plain 2 by 2;farm a at 0 0 day 1 pie 3;", "total wet 0", "0", "total step 0", "-1");
    }

    private void noSuchText() {
        check.sentence("IV", "Its FAULTS: 1 as in I (an unknown word at its first byte;");
        check.askFault(PLAIN, 1, "^", "  ^", "\n^", "^x", "^9", "^;", "^all", "^firsts all", "^Often all", "^pie", "first^", "first  ^", "first ^x",
                "first ^firsts", "often ^alls", "total^",
                "total ^pies", "total 1+^x", "most^", "least ^", "often^1=1", "often all^1", "total pie^1", "total 1^pie", "often 1<2^or all",
                "total ^@", "often ^]", "often 1 ^2",
                "often^\t", "total (^", "total (1^", "total min(1,^", "total 1 ^[", "often ^{");
        for (char sign : new char[] {0, 9, 13, 255}) {
            check.askFault(PLAIN, 1, "^" + sign + "often all", "often^" + sign + "all", "often all^" + sign);
        }
        CalledRiver river = Check.river(PLAIN);
        Check.lay(river, "x");
        check.due("with a FAULT", river.ask(), CalledRiver.NOTHING);
        check.due("it is not refused", river.status(1), 0);
    }

    private void behindIt() {
        check.sentence("IV", "what stands behind it, too)");
        check.askFault(PLAIN, 1, "often all ^all", "often all^;", "often all \n^x", "often all ^12345", "often all ^)", "often all^]", "total 1 ^1",
                "total 1 ^or 1", "total 1 ^and", "total 1^<2", "total 1^)",
                "total 1 ^often all", "total 1^\u00ff", "first all ^not all", "most pie ^pie", "often pie=1 ^[all]");
        dueAll(PLAIN, "often all  \n", "3", " \noften\nall", "3");
    }

    private void openAtOnce() {
        check.sentence("IV", "4 the 7th of ( [ not wet step that is open at once (not until its FACT, wet, step until its PART ends), at it.");
        dueAll(PLAIN, "total ((((((1))))))", "3", "often [[[[[[all]]]]]]", "3", "often not not not not not not all", "3",
                "total wet wet wet wet wet wet 0", "0",
                "total step step step step step step 0", Long.toString(stepsOfSteps()), "often not [not [not (1)=1]]", "0",
                "often [not [(wet step 0)=1 or all]]", "0");
        // what is closed is not open any more
        dueAll(PLAIN, "often not not not not not not all or not not not not not not all and [[[[[[all]]]]]]", "3",
                "total wet wet wet wet wet wet 0+wet wet wet wet wet wet 0*((((((1))))))", "0",
                "often [[[[[[all] and all] and [all]] and all] or not all]]", "3",
                "often not not not not not wet 0=1 and wet 0=1", "0", "often not not not not not (1)=(1)", "0",
                "often not not not not not 1=1 or not not not not not not 1=1", "3",
                "total min((((((1))))),2)+max(1,(((((2))))))", "9");
        check.askFault(PLAIN, 4, "total ((((((^(1", "often [[[[[[^[all", "often not not not not not not ^not all", "total wet wet wet wet wet wet ^wet 0",
                "total step step step step step step ^step 0", "often [not [not (wet ^step", "often [[[[[[^not all", "often [[[[[[^(1)=1",
                "often [[[[[[^wet 0=1",
                "often [[[[[[min^(1,2)", "often not not not not not not ^[all]", "often not not not not not not ^(1)",
                "often not not not not not not ^step 0",
                "often not not not not not not ^wet", "total wet(((((^(1", "total ((((((1)+(1))+(1)))+((((^(((", "total min(max(min(max(min(max(^(",
                "total ((((((max^(1,2)", "often not not not not not not 1=1 and [[[[[[^[");
        check.askFault(PLAIN, 1, "total ((((((^)", "often not not not not not not^", "often [[[[[[^]", "total ((((((min^");
    }

    /** step of a CALLER's number told by a step .. six times over, of all FARMS, by the WAYS that PLAIN's comment tells. */
    private static long stepsOfSteps() {
        int[][] steps = {{1, -1, 2}, {-1, 2, -1}};
        long total = 0;
        for (int farm = 0; farm < 3; farm++) {
            int number = 0;
            for (int k = 0; k < 6; k++) {
                number = number >= 0 && number < 2 ? steps[number][farm] : -1;
            }
            total += number;
        }
        return total;
    }

    private void image() {
        check.sentence("IV",
                "AN IMAGE: YEAR (two bytes, the higher first); for each CELL, row by row, its height, 1 if it is stone, else 0, how often it was wet;"
                + " for each FARM its pie;");
        CalledRiver river = Check.river("plain 3 by 2;high 1 0 9;high 2 1 4;stone 2 0;stone 0 0;source 1;"
                + "farm a at 0 1 day 1 pie 9;farm b at 1 1 day 1 pie 0;caller l bold 0 kind 0;");
        for (int k = 0; k < 3; k++) {
            river.chance(100);
        }
        int[] want = {300 / 256, 300 % 256, 0, 1, 0, 9, 0, 99, 0, 1, 0, 0, 0, 0, 0, 0, 99, 4, 0, 0, 9, 0};
        check.due("bytes", river.image(), want.length + 1);
        for (int k = 0; k < want.length; k++) {
            check.due("byte " + k, river.octet(k), want[k]);
        }
        for (int year : new int[] {0, 1, 254, 255, 256, 257, 510, 511, 512, 513, 767, 768, 769, 998, 999}) {
            CalledRiver one = Check.river("plain 2 by 2;");
            check.due("on", SentenceCheck.show(one, year / 256, year % 256, 0, 0, 0, 0, 0, 0, 0, 0, 0, 0, 0, 0), true);
            check.due("YEAR", one.has(4), year);
            one.image();
            check.due("the higher byte", one.octet(0), year / 256);
            check.due("the lower byte", one.octet(1), year % 256);
        }
        check.due("the least", Check.river("plain 2 by 2;").image(), 15);
        check.due("the most",
                Check.river("plain 6 by 6;farm a at 0 0 day 1 pie 1;farm b at 1 0 day 1 pie 1;farm c at 2 0 day 1 pie 1;farm d at 3 0 day 1 pie 1;"
                + "farm e at 4 0 day 1 pie 1;farm f at 5 0 day 1 pie 1;").image(), 117);
    }

    private void sealed() {
        check.sentence("IV", "last a byte: all ahead from 173 on, c = (3 c + it) mod 251.");
        CalledRiver river = Check.river(PLAIN);
        for (int k = 0; k < 4; k++) {
            river.spring(k % 2);
            int length = river.image();
            int c = 173;
            for (int at = 0; at < length - 1; at++) {
                c = (3 * c + river.octet(at)) % 251;
            }
            check.due("the last byte", river.octet(length - 1), c);
            check.due("behind it", river.octet(length), NONE);
        }
        // 173, 519 mod 251 = 17, 51
        CalledRiver none = new CalledRiver();
        none.image();
        check.due("of two bytes 0", none.octet(2), 51);
    }
}

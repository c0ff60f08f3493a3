/** Terms, part I: what a PLAIN may say, its SUMS, its NAMES. */
final class TextEdges {
    private static final String HEAD = "plain 3 by 5;";
    private static final String OWN_WORDS = "plain by high stone source farm at day pie caller bold kind goes bakes year been height down"
            + " step wet number column row first or and not all min max";
    private static final String[] OTHERS = {"last", "often", "total", "most", "least", "sum", "a", "zzzzzz", "plains", "mi", "minn"};

    private final SentenceCheck check;

    TextEdges(SentenceCheck check) {
        this.check = check;
    }

    void all() {
        statements();
        sides();
        heightsAndStones();
        sources();
        farms();
        callers();
        oneEach();
        grammar();
        numbersInSums();
        wordsInSums();
        whatWordsSay();
        fromTheLeft();
        quotients();
        bounds();
        withoutSums();
        names();
        ownWords();
        blanks();
    }

    private void statements() {
        check.sentence("I", "A PLAIN is a text: { STATEMENT ; } (80 at most)");
        check.told("plain 3 by 5;", 1);
        check.told(HEAD + "high 0 0 1;".repeat(78), 79);
        check.told(HEAD + "high 0 0 1;".repeat(79), 80);
        check.fault(5, HEAD + "high 0 0 1;".repeat(79) + "^high 0 0 1;");
        check.fault(1, "plain 3 by 5^", HEAD + "high 0 0 1^", HEAD + "^;", HEAD + "high 0 0 1;^;", HEAD + "high 0 0 1^,");
    }

    private void sides() {
        check.sentence("I", "plain N by N (2 .. 6 columns, rows; the first STATEMENT, and it alone)");
        int[][] fits = {{2, 2}, {2, 6}, {6, 2}, {6, 6}};
        for (int[] one : fits) {
            CalledRiver river = check.told("plain " + one[0] + " by " + one[1] + ";", 1);
            check.due("columns", river.has(0), one[0]);
            check.due("rows", river.has(1), one[1]);
            check.due("the last CELL", river.cell(one[0] - 1, one[1] - 1, 0), 0);
            check.due("a column more", river.cell(one[0], one[1] - 1, 0), CalledRiver.NONE);
            check.due("a row more", river.cell(one[0] - 1, one[1], 0), CalledRiver.NONE);
        }
        check.fault(2, "plain ^0 by 2;", "plain ^1 by 2;", "plain ^7 by 2;", "plain ^9999 by 2;");
        check.fault(2, "plain 2 by ^0;", "plain 2 by ^1;", "plain 2 by ^7;", "plain 2 by ^9999;");
        check.fault(1, "^high 0 0 1;plain 3 by 3;", "^source 0;", "^caller a bold 0 kind 0;", "^goes 1;", "^by 3;");
        check.fault(1, HEAD + "^plain 3 by 5;", HEAD + "high 0 0 1; ^plain 3 by 5;");
    }

    private void heightsAndStones() {
        check.sentence("I", "high N N N, stone N N (a column, a row from 0 on; 0 .. 9; the last height of a CELL counts, 0 without;"
                + " a CELL that is no stone yet)");
        CalledRiver river = check.told(HEAD + "high 0 0 9;high 2 4 0;high 2 0 3;high 2 0 5;high 2 0 4;stone 0 0;stone 2 4;", 8);
        check.due("9", river.cell(0, 0, 0), 9);
        check.due("0", river.cell(2, 4, 0), 0);
        check.due("the last height", river.cell(2, 0, 0), 4);
        check.due("0 without", river.cell(1, 1, 0), 0);
        check.due("the first CELL is stone", river.cell(0, 0, 1), 1);
        check.due("the last CELL is stone", river.cell(2, 4, 1), 1);
        check.due("no more", river.has(5), 2);
        check.fault(2, HEAD + "high ^3 0 0;", HEAD + "high 0 ^5 0;", HEAD + "high 0 0 ^10;", HEAD + "high ^4 9 99;");
        check.fault(2, HEAD + "stone ^3 0;", HEAD + "stone 0 ^5;", HEAD + "stone 1 3;stone 1 ^3;", HEAD + "stone 0 0;high 0 0 1;stone 0 ^0;");
        check.told(HEAD + "stone 1 3;stone 2 3;stone 1 2;high 1 3 1;", 5);
    }

    private void sources() {
        check.sentence("I", "source N (a column of row 0; the last one counts, 0 without)");
        check.due("the first column", check.told(HEAD + "source 0;", 2).has(6), 0);
        check.due("the last column", check.told(HEAD + "source 2;", 2).has(6), 2);
        check.due("the last one", check.told(HEAD + "source 2;source 0;source 1;", 4).has(6), 1);
        check.due("without", check.told(HEAD, 1).has(6), 0);
        check.fault(2, HEAD + "source ^3;", HEAD + "source 1;source ^9999;");
        check.told(HEAD + "stone 1 0;source 1;", 3);
    }

    /** So many FARMS, each in a CELL of its own. */
    static String farms(int count) {
        StringBuilder text = new StringBuilder(HEAD);
        for (int k = 0; k < count; k++) {
            text.append("farm f").append((char) ('a' + k)).append(" at ").append(k % 3).append(' ').append(k / 3).append(" day 1 pie 1;");
        }
        return text.toString();
    }

    static String callers(int count) {
        StringBuilder text = new StringBuilder(HEAD);
        for (int k = 0; k < count; k++) {
            text.append("caller c").append((char) ('a' + k)).append(" bold 0 kind 0;");
        }
        return text.toString();
    }

    private void farms() {
        check.sentence("I", "farm NAME at N N day N pie N (a CELL with none; 1 .. 40; 0 .. 9; 6 FARMS)");
        CalledRiver river = check.told(HEAD + "farm a at 0 0 day 1 pie 0;farm b at 2 4 day 40 pie 9;stone 1 1;farm c at 1 1 day 2 pie 1;", 5);
        check.due("day 1", river.farm(0, 2), 1);
        check.due("pie 0", river.farm(0, 3), 0);
        check.due("day 40", river.farm(1, 2), 40);
        check.due("pie 9", river.farm(1, 3), 9);
        check.fault(2, HEAD + "farm a at ^3 0 day 1 pie 0;", HEAD + "farm a at 0 ^5 day 1 pie 0;", HEAD + "farm a at 0 0 day ^0 pie 0;",
                HEAD + "farm a at 0 0 day ^41 pie 0;", HEAD + "farm a at 0 0 day 1 pie ^10;");
        check.fault(2, HEAD + "farm a at 1 4 day 1 pie 0;farm b at 1 ^4 day 1 pie 0;");
        check.due("six", check.told(farms(6), 7).has(2), 6);
        check.fault(5, farms(6) + "^farm g at 2 4 day 1 pie 1;");
        check.due("none", check.told(HEAD, 1).has(2), 0);
    }

    private void callers() {
        check.sentence("I", "caller NAME bold N kind N (0 .. 9 each; 5 CALLERS)");
        CalledRiver river = check.told(HEAD + "caller a bold 0 kind 9;caller b bold 9 kind 0;", 3);
        check.due("bold 0", river.caller(0, 0), 0);
        check.due("kind 9", river.caller(0, 1), 9);
        check.due("bold 9", river.caller(1, 0), 9);
        check.due("kind 0", river.caller(1, 1), 0);
        check.fault(2, HEAD + "caller a bold ^10 kind 0;", HEAD + "caller a bold 0 kind ^10;");
        check.due("five", check.told(callers(5), 6).has(3), 5);
        check.fault(5, callers(5) + "^caller f bold 0 kind 0;");
    }

    private void oneEach() {
        check.sentence("I", "goes SUM, bakes SUM (one each)");
        check.told(HEAD + "goes 1;bakes 1;", 3);
        check.told(HEAD + "bakes 1;goes 1;", 3);
        check.fault(5, HEAD + "goes 1;^goes 1;", HEAD + "bakes 1;^bakes 1;", HEAD + "goes 1;bakes 1;^goes 1;", HEAD + "bakes 1;goes 1;^bakes 1;");
        check.fault(1, HEAD + "goes^;", HEAD + "bakes ^;");
    }

    private void grammar() {
        check.sentence("I", "SUM: PRODUCT { + or - PRODUCT }. PRODUCT: PART { * or / PART }.");
        check.due("one PART", baked("7"), 7);
        check.due("many sums", baked("1+1+1+1+1+1+1-1-1"), 5);
        check.due("many products", baked("2*2*2*2/2/2"), 4);
        check.due("both", baked("1*2+3*4-8/2-2*3"), 4);
        check.due("as many as the tape holds", baked("1" + "+1".repeat(4) + "+0*1".repeat(370)), 5);
        check.fault(1, HEAD + "goes 1+^;", HEAD + "goes 1-^;", HEAD + "goes 1*^;", HEAD + "goes 1/^;", HEAD + "goes 1+^*2;", HEAD + "goes 1 ^2;",
                HEAD + "goes 1 ^(2);", HEAD + "goes (1)^(2);",
                HEAD + "goes 1^%2;", HEAD + "goes 1 ^min(1,2);");
    }

    private void numbersInSums() {
        check.sentence("I", "N (1 to 4 digits)");
        check.due("0", baked("0"), 0);
        check.due("a digit", baked("8"), 8);
        check.due("four digits", baked("0008"), 8);
        check.due("9999", baked("9999-9994"), 5);
        check.fault(1, HEAD + "goes 0000^8;", HEAD + "bakes 1234^5;", HEAD + "bakes 1234^567;", HEAD + "goes 1+(2*1234^5);",
                HEAD + "high 0 0 0000^1;");
        check.told("plain 0003 by 0005;high 0002 0004 0009;source 0002;caller a bold 0009 kind 0000;farm b at 0000 0000 day 0040 pie 0009;", 5);
    }

    /** The pie of a FARM behind a YEAR in which it was watered, wet for the first time, its pie 3 ahead of that. */
    private static int baked(String sum) {
        CalledRiver river = Check.river("plain 2 by 2;farm a at 0 1 day 1 pie 3;caller c bold 0 kind 0;bakes " + sum + ";");
        river.spring(0);
        return river.farm(0, 3);
    }

    private void wordsInSums() {
        check.sentence("I", "year; pie; been; ( SUM ) ; min ( SUM , SUM ) ; max ( SUM , SUM ) ; in goes: bold; kind; height; down; step; in bakes: wet.");
        String both = " year pie been min max ";
        String inGoes = both + "bold kind height down step ";
        String inBakes = both + "wet ";
        for (String word : (OWN_WORDS + " last often total most least").split(" ")) {
            boolean isPair = word.equals("min") || word.equals("max");
            String part = isPair ? word + "(1,2)" : word;
            if (inGoes.contains(" " + word + " ")) {
                check.told(HEAD + "goes " + part + ";", 2);
            } else {
                check.fault(1, HEAD + "goes ^" + part + ";");
            }
            if (inBakes.contains(" " + word + " ")) {
                check.told(HEAD + "bakes " + part + ";", 2);
            } else {
                check.fault(1, HEAD + "bakes ^" + part + ";");
            }
        }
        check.fault(1, HEAD + "goes min^;", HEAD + "goes min(1^);", HEAD + "goes max(1,^);", HEAD + "goes max(1,2^,3);", HEAD + "goes (^);",
                HEAD + "goes (1^,2);", HEAD + "bakes min ^1,2;", HEAD + "goes ^-1;", HEAD + "goes ^+1;", HEAD + "goes 1-^-1;", HEAD + "goes 1*^/1;");
        check.due("min", baked("min(4,7)"), 4);
        check.due("max", baked("max(4,7)"), 7);
        check.due("like ones", baked("min(4,4)+max(1,1)"), 5);
        check.due("in brackets", baked("(1+1)*(1+2)"), 6);
    }

    private void whatWordsSay() {
        check.sentence("I", "the pie of the FARM in the CELL, 0 without one");
        String fork = "plain 3 by 2;source 1;farm f at 2 0 day 9 pie 1;caller a bold 7 kind 4;goes ";
        check.way(Check.river(fork + "pie;"), 0, 1, 0, 2, 0, 2, 1);
        check.way(Check.river(fork + "0-pie;"), 0, 1, 0, 0, 0, 0, 1);
        check.way(Check.river(fork + "max(pie,1);"), 0, 1, 0, 0, 0, 0, 1);
        check.sentence("I", "how often the CELL was wet");
        CalledRiver river = Check.river("plain 3 by 2;source 1;caller a bold 7 kind 4;goes 0-down-2*been;");
        check.way(river, 0, 1, 0, 1, 1);
        river.spring(0);
        check.way(river, 0, 1, 0, 0, 0, 0, 1);
        check.sentence("I", "of a CALLER how bold, how kind");
        check.way(Check.river("plain 2 by 2;caller a bold 7 kind 4;goes (bold-8)*down;"), 0, 0, 0, 0, 1);
        check.way(Check.river("plain 2 by 2;caller a bold 7 kind 4;goes (bold-6)*down;"), 0, 0, 0, 1, 0, 1, 1);
        check.way(Check.river("plain 2 by 2;caller a bold 7 kind 4;goes (kind-3)*down;"), 0, 0, 0, 1, 0, 1, 1);
        check.way(Check.river("plain 2 by 2;caller a bold 7 kind 4;goes (kind-5)*down;"), 0, 0, 0, 0, 1);
        check.sentence("I", "of the CELL one goes to its height, how many rows it is from the last one, the number of the STEP, 1 and on");
        String slope = "plain 3 by 3;source 1;high 0 0 1;high 1 0 2;high 2 0 2;high 1 1 0;caller a bold 0 kind 0;goes ";
        check.way(Check.river(slope + "height-step;"), 0, 1, 0, 2, 0, 2, 1, 1, 1, 0, 1, 0, 2);
        check.way(Check.river(slope + "0-height;"), 0, 1, 0, 1, 1, 0, 1, 0, 2);
        // down is 2, 1, 0: beside the source it is as many as in row 0, below it one less
        check.way(Check.river("plain 2 by 3;caller a bold 0 kind 0;goes 0-(down-2)*(down-2);"), 0, 0, 0, 1, 0, 1, 1, 0, 1, 0, 2);
        check.way(Check.river("plain 2 by 3;caller a bold 0 kind 0;goes 0-(down-1)*(down-1);"), 0, 0, 0, 0, 1, 1, 1, 1, 0);
        check.way(Check.river("plain 2 by 3;caller a bold 0 kind 0;goes 0-down*down;"), 0, 0, 0, 0, 1, 0, 2);
        // STEP 1 goes beside, all behind it down; were the first one 0 or 2, it would be otherwise
        check.way(Check.river("plain 2 by 3;caller a bold 0 kind 0;goes down*(3-2*step);"), 0, 0, 0, 1, 0, 1, 1, 1, 2);
        check.way(Check.river("plain 2 by 3;caller a bold 0 kind 0;goes down*(1-2*step);"), 0, 0, 0, 0, 1, 0, 2);
        check.sentence("I", "1 if the FARM was watered by its day, else 0");
        String late = "plain 2 by 3;farm a at 0 1 day 1 pie 3;farm b at 0 2 day 1 pie 3;farm c at 1 1 day 9 pie 3;caller d bold 0 kind 0;bakes 4+wet;";
        river = Check.river(late);
        river.spring(0);
        check.due("by its day", river.farm(0, 3), 5);
        check.due("a day late", river.farm(1, 3), 4);
        check.due("not on the WAY", river.farm(2, 3), 4);
        check.sentence("I", "The YEAR;");
        river = Check.river("plain 3 by 2;source 1;caller a bold 0 kind 0;goes down*(2*year-1);");
        check.way(river, 0, 1, 0, 1, 1);
        river.spring(0);
        check.way(river, 0, 1, 0, 0, 0, 0, 1);
    }

    private void fromTheLeft() {
        check.sentence("I", "All from the left on;");
        check.due("differences", baked("9-3-2"), 4);
        check.due("a sum behind a difference", baked("9-3+2"), 8);
        check.due("quotients", baked("8/4/2"), 1);
        check.due("a quotient behind a product", baked("2*7/4"), 3);
        check.due("a product behind a quotient", baked("7/4*2"), 2);
        check.due("products ahead of sums", baked("1+2*3"), 7);
        check.due("products ahead of differences", baked("9-2*3"), 3);
        check.due("brackets ahead of all", baked("9-(3-2)"), 8);
    }

    private void quotients() {
        check.sentence("I", "/ gives the greatest whole number not above, by 0 it gives 0");
        String plain = "plain 2 by 2;farm a at 0 1 day 1 pie 3;";
        String[] sums = {"7/2", "(0-7)/2", "7/(0-2)", "(0-7)/(0-2)", "6/2", "(0-6)/2", "1/2", "(0-1)/2", "0/5", "0/(0-5)", "7/0", "(0-7)/0", "0/0",
                "9999*9999/(0-1)",
            "(0-9999*9999)/(0-1)", "1/(0-9999)"};
        long[] want = {3, -4, -4, 3, 3, -3, 0, -1, 0, 0, 0, 0, 0, -1000000, 1000000, -1};
        for (int k = 0; k < sums.length; k++) {
            check.answer(plain, "total " + sums[k], want[k]);
        }
        check.due("in bakes", baked("9+(0-7)/2"), 5);
        check.due("in bakes, by 0", baked("4+7/(pie-3)"), 4);
        check.way(Check.river("plain 3 by 2;source 1;caller a bold 0 kind 0;goes (0-down)/2;"), 0, 1, 0, 1, 1);
        check.way(Check.river("plain 3 by 2;source 1;caller a bold 0 kind 0;goes 1/(0-2*down);"), 0, 1, 0, 1, 1);
        check.way(Check.river("plain 3 by 2;source 1;caller a bold 0 kind 0;goes (down+1)/down;"), 0, 1, 0, 0, 0, 0, 1);
    }

    private void bounds() {
        check.sentence("I", "each sum, difference, product above 10 to the 6 is that, below -10 to the 6 likewise");
        String plain = "plain 2 by 2;farm a at 0 1 day 1 pie 3;";
        String[] sums = {"9999*100+100", "9999*100+101", "9999*100+99", "9999*9999", "0-9999*100-100", "0-9999*100-101", "0-9999*100-99",
            "(0-9999)*9999", "1000*1000", "1000*1001", "(0-1000)*1000", "(0-1000)*1001", "9999*9999-1", "0-9999*9999+1", "9999*9999+1-1",
            "9999*9999*9999*9999/9999", "9999*100-(0-101)", "(0-9999*100)+(0-101)", "9999*9999*0", "(0-9999*9999)*(0-9999*9999)",
            "(0-9999*9999)*(9999*9999)"};
        long[] want = {1000000, 1000000, 999999, 1000000, -1000000, -1000000, -999999, -1000000, 1000000, 1000000, -1000000, -1000000, 999999, -999999,
            999999, 100, 1000000, -1000000, 0, 1000000, -1000000};
        for (int k = 0; k < sums.length; k++) {
            check.answer(plain, "total " + sums[k], want[k]);
        }
        check.due("a product in bakes", baked("9999*9999-9999*100-93"), 7);
        check.due("a sum in bakes", baked("9999*100+9999-9999*100-95"), 5);
        check.due("a difference in bakes", baked("0-9999*100-9999+9999*100+105"), 5);
        // beside the source down is 1, below it 0: held to the bound both are alike, so the first one is gone to
        for (String sum : new String[] {"9999*9999-down+1", "0-9999*9999-down", "9999*101*(2-down)", "(0-9999)*101*(1+down)"}) {
            check.way(Check.river("plain 3 by 2;source 1;caller a bold 0 kind 0;goes " + sum + ";"), 0, 1, 0, 0, 0, 0, 1);
        }
    }

    private void withoutSums() {
        check.sentence("I", "Without: goes is 0-down, bakes is pie.");
        String plain = "plain 3 by 3;source 1;farm a at 0 0 day 9 pie 9;farm b at 1 1 day 1 pie 0;caller c bold 9 kind 9;";
        for (String sums : new String[] {"", "bakes pie;", "goes 0-down;"}) {
            CalledRiver river = Check.river(plain + sums);
            check.way(river, 0, 1, 0, 1, 1, 1, 2);
            river.spring(0);
            check.due("a's pie", river.farm(0, 3), 9);
            check.due("b's pie", river.farm(1, 3), 0);
        }
    }

    private void names() {
        check.sentence("I", "NAMES: 1 to 6 letters, no OWN WORD, unlike ones (of all sorts).");
        CalledRiver river = check.told(HEAD
                + "farm a at 0 0 day 1 pie 1;farm abcdef at 1 0 day 1 pie 1;caller z bold 0 kind 0;caller uvwxyz bold 0 kind 0;", 5);
        check.due("a letter", river.letter(0, 0, 0), 1);
        check.due("and no more", river.letter(0, 0, 1), 0);
        check.due("the sixth", river.letter(0, 1, 5), 6);
        check.due("z", river.letter(1, 0, 0), 26);
        check.due("the sixth", river.letter(1, 1, 5), 26);
        check.fault(1, HEAD + "farm abcdef^g at", HEAD + "caller abcdef^ghijkl bold", HEAD + "farm ^; at", HEAD + "farm ^1 at", HEAD + "farm ^A at",
                HEAD + "farm a^A at", HEAD + "farm a^1 at", HEAD + "caller ^\u00e4 bold", HEAD + "farm ^`", HEAD + "farm ^{", HEAD + "caller a^_b bold");
        check.fault(3, HEAD + "farm a at 0 0 day 1 pie 1;farm ^a", HEAD + "caller a bold 0 kind 0;caller ^a", HEAD + "farm a at 0 0 day 1 pie 1;caller ^a",
                HEAD + "caller abcdef bold 0 kind 0;farm ^abcdef");
        check.told(HEAD + "farm ab at 0 0 day 1 pie 1;farm a at 1 0 day 1 pie 1;caller b bold 0 kind 0;caller ba bold 0 kind 0;caller aab bold 0 kind 0;", 6);
    }

    private void ownWords() {
        check.sentence("I", "OWN WORDS: plain, by, high, stone, source, farm, at, day, pie, caller, bold, kind, goes, bakes, year, been, height, down,"
                + " step, wet, number, column, row, first, or, and, not, all, min, max.");
        for (String word : OWN_WORDS.split(" ")) {
            check.fault(1, HEAD + "farm ^" + word + " at 0 0 day 1 pie 1;", HEAD + "caller ^" + word + " bold 0 kind 0;");
        }
        for (String word : OTHERS) {
            check.told(HEAD + "farm " + word + " at 0 0 day 1 pie 1;", 2);
            check.told(HEAD + "caller " + word + " bold 0 kind 0;", 2);
        }
    }

    private void blanks() {
        check.sentence("I", "Blanks (10, 32) are where one likes (words and numbers side by side need one).");
        String text = "plain 3 by 5 ; high 0 1 2 ; farm abc at 2 4 day 40 pie 9 ; goes ( bold + kind * min ( pie , down ) - 1 ) / 2 ; bakes wet ;";
        check.told(text, 5);
        check.told("\n \n" + text.replace(" ", "\n  \n") + " \n", 5);
        check.told(text.replace(" ;", ";").replace("; ", ";").replace(" (", "(").replace("( ", "(").replace(" )", ")").replace(") ", ")")
                .replace(" + ", "+").replace(" * ", "*").replace(" , ", ",").replace(" - ", "-").replace(" / ", "/"), 5);
        check.fault(1, "plain^3 by 5;", "plain 3^by 5;", "plain 3 by^5;", "^plainby 3;", HEAD + "high^0 1 2;",
                HEAD + "farm^1", HEAD + "^farmabc at", HEAD + "farm abc^1", HEAD + "farm abc ^att 2 4", HEAD + "farm abc at 2 4 day^40",
                HEAD + "farm abc at 2 4^day 40", HEAD + "goes 1^bold;", HEAD + "goes bold^1;", HEAD + "goes ^boldkind;", HEAD + "^goesbold;");
        for (char sign : new char[] {0, 9, 11, 13, 160, 255}) {
            check.fault(1, "^" + sign + "plain 3 by 5;", "plain^" + sign + "3 by 5;", "plain 3 by 5;^" + sign);
        }
    }
}

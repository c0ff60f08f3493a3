/** Terms, part I: the FAULTS of a PLAIN. */
final class FaultEdges {
    private static final String HEAD = "plain 3 by 5;";
    /** Every STATEMENT there is, a token between each two blanks. */
    private static final String WHOLE = "plain 3 by 5 ; high 0 1 2 ; stone 1 1 ; source 2 ; farm abc at 2 4 day 40 pie 9 ; caller d bold 9 kind 0 ;"
            + " goes ( bold + kind * min ( pie , down ) - max ( height , step ) / 2 ) ; bakes wet ;";

    private final SentenceCheck check;

    FaultEdges(SentenceCheck check) {
        this.check = check;
    }

    void all() {
        firstAlong();
        noSuchByte();
        wholeWords();
        asNames();
        fifthDigits();
        endsTooSoon();
        badNumbers();
        takenNames();
        openAtOnce();
        tooMany();
    }

    /** Each FAULT with each other one behind it. */
    private void firstAlong() {
        check.sentence("I", "FAULTS, the first along the text");
        String ahead = HEAD + "farm abc at 0 0 day 1 pie 1;bakes 1;";
        String[] faulty = {"", "^@;", "high ^9 0 0;", "farm ^abc at 1 1 day 1 pie 1;", "goes ((((((^(1)))))));", "^bakes 1;"};
        for (int first = 1; first <= 5; first++) {
            check.fault(first, ahead + faulty[first]);
            for (int second = 1; second <= 5; second++) {
                check.fault(first, ahead + faulty[first] + faulty[second].replace("^", ""));
            }
        }
        check.fault(3, ahead + "farm ^abc at 9 9 day 99 pie 99 @");
        check.fault(2, ahead + "farm x at ^9 9 day 99 pie 99 @", ahead + "farm x at 0 ^0 day 99 pie 99 @", ahead + "farm x at 0 1 day ^99 pie 99 @");
        check.fault(2, ahead + "high ^9 12345 x", "plain ^1 by 1", "plain 3 by ^1 @", ahead + "high ^3high");
        check.fault(1, ahead + "high ^x 9 99;", ahead + "high 1234^5 9 99;", ahead + "farm abcdef^g at 9", ahead + "goes (((((1+^;((((((");
        check.fault(4, ahead + "goes ((((((^(@", ahead + "goes ((((((^(1;goes 1;");
    }

    private static String[] tokens() {
        return WHOLE.split(" ");
    }

    /** All tokens, the k-th one in another's place, marked where it begins. */
    private static String with(int k, String other) {
        String[] tokens = tokens();
        tokens[k] = "^" + other;
        return String.join(" ", tokens);
    }

    private static boolean isWord(String token) {
        return Character.isLetter(token.charAt(0));
    }

    private static boolean isNumber(String token) {
        return Character.isDigit(token.charAt(0));
    }

    private static boolean isName(int k) {
        return k > 0 && (tokens()[k - 1].equals("farm") || tokens()[k - 1].equals("caller"));
    }

    private void noSuchByte() {
        check.sentence("I", "1 the first byte with which no such text goes on");
        check.told(WHOLE, 8);
        for (int k = 0; k < tokens().length; k++) {
            check.fault(1, with(k, "@"), with(k, "\u00ff"), with(k, "\t" + tokens()[k]), with(k, "[" + tokens()[k]));
        }
        check.fault(1, WHOLE + "^@", WHOLE + " ^;", HEAD + "goes 1^]", HEAD + "goes ^[1]", HEAD + "goes 1^<2", HEAD + "goes 1^=1");
    }

    private void wholeWords() {
        check.sentence("I", "(words and numbers whole, at their first byte;");
        String[] tokens = tokens();
        for (int k = 0; k < tokens.length; k++) {
            if (isWord(tokens[k]) && !isName(k)) {
                check.fault(1, with(k, "zzz"), with(k, tokens[k] + "z"), with(k, tokens[k].substring(0, 1) + "zzzzzzz"));
                check.fault(1, with(k, tokens[k].toUpperCase()));
            }
            if (isWord(tokens[k]) && !tokens[k].matches("bold|kind|pie|height|step|down|min|max|wet")) {
                check.fault(1, with(k, "12345"), with(k, "7"));
            }
            if (isNumber(tokens[k])) {
                check.fault(1, with(k, "zzz"), with(k, "high"), with(k, "zzzzzzzzz"));
            }
            if (!isWord(tokens[k]) && !isNumber(tokens[k]) && !tokens[k].equals("(")) {
                check.fault(1, with(k, "7"), with(k, "12345"), with(k, "zzzzzzz"), with(k, "high"));
            }
        }
        check.fault(1, "^pla", "^plainplain 3", HEAD + "^hig", HEAD + "^highhigh", HEAD + "goes ^bol", HEAD + "high 0 0 0 ^12345", HEAD + "^12345");
    }

    private void asNames() {
        check.sentence("I", "where a NAME is asked, an OWN WORD so, a 7th letter at itself;");
        for (String kind : new String[] {"farm ", "caller "}) {
            check.fault(1, HEAD + kind + "^at", HEAD + kind + "^bold 1", HEAD + kind + "^height", HEAD + kind + "^7", HEAD + kind + "^12345",
                    HEAD + kind + "abcdef^g", HEAD + kind + "abcdef^ghijklmnop 1", HEAD + kind + "height^s", HEAD + kind + "column^n",
                    HEAD + kind + "abcdef^", HEAD + kind + "heigh^", HEAD + kind + "heighs^");
        }
        check.fault(1, HEAD + "caller abcdef bold 0 kind 0;farm abcdef^g");
    }

    private void fifthDigits() {
        check.sentence("I", "where a number is asked, a 5th digit at itself;");
        String[] tokens = tokens();
        for (int k = 0; k < tokens.length; k++) {
            if (isNumber(tokens[k])) {
                String four = "0000".substring(tokens[k].length()) + tokens[k];
                check.told(with(k, four).replace("^", ""), 8);
                String[] more = tokens();
                more[k] = "0" + four.substring(0, 3) + "^" + four.charAt(3);
                check.fault(1, String.join(" ", more));
                more[k] = "0000^0000" + tokens[k];
                check.fault(1, String.join(" ", more));
            }
        }
    }

    private void endsTooSoon() {
        check.sentence("I", "at the text's length, if it ends too soon)");
        String[] tokens = tokens();
        StringBuilder text = new StringBuilder();
        int statements = 0;
        for (String token : tokens) {
            text.append(token);
            if (token.equals(";")) {
                statements++;
                check.told(text + "", statements);
                check.told(text + " \n", statements);
            } else {
                check.fault(1, text + "^", text + "   ^", text + "\n^");
            }
            text.append(' ');
        }
        check.fault(1, "^", " ^", "\n  \n^", HEAD + "farm a^", HEAD + "high 0^");
    }

    private void badNumbers() {
        check.sentence("I", "2 a number that can't be (of a CELL the row; a stone or a FARM that is there already, too), at it");
        check.fault(2, "plain  ^7 by", "plain 3 by\n^1", HEAD + "high ^3", HEAD + "high 2 ^5", HEAD + "high 2 4 ^10", HEAD + "stone ^3",
                HEAD + "stone 2 ^5", HEAD + "source ^3", HEAD + "farm a at ^3", HEAD + "farm a at 2 ^5", HEAD + "farm a at 2 4 day ^0",
                HEAD + "farm a at 2 4 day ^41",
                HEAD + "farm a at 2 4 day ^9999", HEAD + "farm a at 2 4 day 40 pie ^10", HEAD + "caller a bold ^10", HEAD + "caller a bold 9 kind ^10");
        check.fault(2, HEAD + "stone 2 4;stone 2 ^4;", HEAD + "stone 2 4;stone 2  ^4", HEAD + "stone 2 4;stone 2 ^4 4", HEAD + "stone 0 0;stone 0 ^0000;");
        check.fault(2, HEAD + "farm a at 2 4 day 1 pie 1;farm b at 2 ^4 day 0 pie 1;", HEAD + "farm a at 0 0 day 1 pie 1;farm b at 0 ^0");
        check.told(HEAD + "stone 2 4;farm a at 2 4 day 1 pie 1;", 3);
        check.told(HEAD + "farm a at 2 4 day 1 pie 1;stone 2 4;high 2 4 1;high 2 4 2;", 5);
        check.fault(1, HEAD + "stone 2 4;stone 2^", HEAD + "stone 2 4;stone 2 ^;");
    }

    private void takenNames() {
        check.sentence("I", "3 a NAME that is there already, at it");
        String ahead = HEAD + "farm a at 0 0 day 1 pie 1;farm bcdefg at 1 0 day 1 pie 1;caller h bold 0 kind 0;caller ijklmn bold 0 kind 0;";
        for (String name : new String[] {"a", "bcdefg", "h", "ijklmn"}) {
            check.fault(3, ahead + "farm ^" + name, ahead + "caller \n ^" + name + " bold", ahead + "farm ^" + name + "1",
                    ahead + "caller ^" + name + ";");
        }
        check.told(ahead + "farm b at 2 0 day 1 pie 1;caller hh bold 0 kind 0;", 7);
        check.fault(2, ahead + "farm b at ^9 0");
    }

    private void openAtOnce() {
        check.sentence("I", "4 the 7th ( that is open at once, at it");
        for (String kind : new String[] {"goes ", "bakes "}) {
            check.told(HEAD + kind + "((((((1))))));", 2);
            check.told(HEAD + kind + "((((((1))))))+((((((1))))))*(1)-(((1)+(1))*(1));", 2);
            check.told(HEAD + kind + "min(max(min(max(min(max(1,2),3),4),5),6),7);", 2);
            check.told(HEAD + kind + "min(1,max(1,min(1,max(1,min(1,(2))))));", 2);
            check.fault(4, HEAD + kind + "((((((^(1)))))));", HEAD + kind + "((((((  ^(", HEAD + kind + "((((((1+2)*(3+^(",
                    HEAD + kind + "min(max(min(max(min(max(1,^(2", HEAD + kind + "((((((min^(1,2", HEAD + kind + "((((((max  ^(1,2",
                    HEAD + kind + "(((((1)+((2)+(^((3", HEAD + kind + "min((((((^(1");
        }
        check.fault(1, HEAD + "goes ((((((min^;", HEAD + "goes ((((((^)", HEAD + "goes ((((((1))))))^);");
    }

    private void tooMany() {
        check.sentence("I", "5 one too many of a kind (a second goes, bakes, too), an 81st STATEMENT (whatever stands there), at its first byte.");
        check.fault(5, TextEdges.farms(6) + "^farm", TextEdges.farms(6) + " \n ^farm fa at 9 9", TextEdges.callers(5) + "^caller",
                TextEdges.callers(5) + " ^caller 1",
                HEAD + "goes 1; ^goes", HEAD + "bakes 1;\n^bakes @", HEAD + "goes 1;bakes 1; ^goes 1;", HEAD + "bakes 0;^bakes 0;");
        check.told(TextEdges.farms(6) + "caller a bold 0 kind 0;goes 1;stone 0 0;bakes 1;source 1;high 0 0 1;", 13);
        String full = HEAD + "high 0 0 1;".repeat(79);
        for (String behind : new String[] {"^high 0 0 1;", "^plain", " ^;", "\n\n^@", "^x", "^7", "^12345", "^(", "^\u00ff", "^farm at",
                "^goes ((((((((", "^high 9"}) {
            check.fault(5, full + behind);
        }
        check.told(full + " \n ", 80);
        String almost = HEAD + "high 0 0 1;".repeat(78);
        check.fault(1, almost + "^x", almost + "^;", almost + "high 0 0 1^");
        check.fault(2, almost + "high ^9 0 0;@");
    }
}

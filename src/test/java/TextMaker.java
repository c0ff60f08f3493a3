import java.util.ArrayList;
import java.util.Collections;
import java.util.List;
import java.util.Random;

/** Makes texts of the small language by a seed, right ones and, now and then, wrong ones. */
final class TextMaker {
    private static final String[] IN_GOES = {"year", "pie", "been", "bold", "kind", "height", "down", "step"};
    private static final String[] IN_BAKES = {"year", "pie", "been", "wet"};
    private static final String[] IN_QUESTIONS = {"number", "column", "row", "day", "pie", "been", "year", "height"};
    private static final String[] GOES = {"kind*pie-bold*down", "kind*(height+pie)-been*bold", "(bold-5)*height+(kind-5)*down",
        "(bold-kind)*(step-3)-down", "pie*kind-been*3-down*min(bold,2)", "(bold*step+kind*down)/3-been", "0-max(kind,down)*been",
        "((((((step))))))*bold-(((((((down)))))))", "(year-bold)*(height-kind)+pie"};
    private static final String[] SCRAPS = {"(", ")", "[", "]", ";", ",", "+", "-", "*", "/", "<", ">", "=", " ", "\n", "\t",
        "A", "0", "7", "10", "41", "12345", "a", "abcdefg", "plain", "high", "stone", "farm", "at", "pie", "caller", "goes",
        "bakes", "wet", "step", "not", "all", "or", "and", "min", "max(", "min (1,2)", "last", "first", "x y", "\u00e9", "\0"};

    private final Random random;
    private String[] words = IN_GOES;

    TextMaker(Random random) {
        this.random = random;
    }

    private int upTo(int most) {
        return random.nextInt(most + 1);
    }

    private boolean rarely() {
        return random.nextInt(8) == 0;
    }

    String plain() {
        int columns = 2 + upTo(4);
        int rows = 2 + upTo(4);
        List<String> statements = new ArrayList<>();
        addHeights(statements, columns, rows);
        addStones(statements, columns, rows);
        addFarms(statements, columns, rows);
        int callers = rarely() ? upTo(6) : 1 + upTo(4);
        for (int k = 0; k < callers; k++) {
            statements.add("caller c" + (char) ('a' + k) + " bold " + upTo(9) + " kind " + upTo(9));
        }
        addSums(statements);
        if (!rarely()) {
            statements.add("source " + upTo(columns - 1));
        }
        Collections.shuffle(statements, random);
        statements.add(0, "plain " + columns + " by " + rows);
        StringBuilder text = new StringBuilder();
        for (String statement : statements) {
            text.append(statement).append(rarely() ? " ; \n" : ";");
        }
        return perhapsSpoiled(text.toString());
    }

    private void addHeights(List<String> statements, int columns, int rows) {
        int slope = upTo(2);
        int noise = random.nextBoolean() ? 0 : upTo(3);
        for (int place = 0; place < columns * rows; place++) {
            int height = Math.max(0, Math.min(9, 1 + slope * (rows - place / columns) + upTo(noise)));
            if (slope + noise > 0 && !(rarely() && rarely())) {
                statements.add("high " + place % columns + " " + place / columns + " " + height);
            }
        }
    }

    private void addStones(List<String> statements, int columns, int rows) {
        int stones = random.nextBoolean() ? 0 : upTo(4);
        List<Integer> places = places(columns * rows);
        for (int k = 0; k < Math.min(stones, places.size()); k++) {
            int place = rarely() && rarely() ? places.get(0) : places.get(k);
            statements.add("stone " + place % columns + " " + place / columns);
        }
    }

    private void addFarms(List<String> statements, int columns, int rows) {
        int farms = rarely() ? upTo(7) : upTo(6);
        List<Integer> places = places(columns * rows);
        for (int k = 0; k < Math.min(farms, places.size()); k++) {
            String name = rarely() && rarely() ? "same" : "farm" + (char) ('a' + k);
            int day = 1 + (random.nextBoolean() ? upTo(8) : upTo(39));
            int place = places.get(k);
            statements.add("farm " + name + " at " + place % columns + " " + place / columns + " day " + day + " pie " + upTo(9));
        }
    }

    private void addSums(List<String> statements) {
        if (!rarely()) {
            words = IN_GOES;
            statements.add("goes " + (random.nextInt(4) > 0 ? GOES[random.nextInt(GOES.length)] : sum(upTo(8))));
        }
        if (!rarely()) {
            words = IN_BAKES;
            statements.add("bakes " + (random.nextBoolean() ? "pie+1-2*wet" : sum(upTo(8))));
        }
    }

    private List<Integer> places(int count) {
        List<Integer> places = new ArrayList<>();
        for (int k = 0; k < count; k++) {
            places.add(k);
        }
        Collections.shuffle(places, random);
        return places;
    }

    private String sum(int depth) {
        StringBuilder text = new StringBuilder(product(depth));
        for (int k = upTo(2); k > 0; k--) {
            text.append(random.nextBoolean() ? "+" : " - ").append(product(depth));
        }
        return text.toString();
    }

    private String product(int depth) {
        StringBuilder text = new StringBuilder(part(depth));
        for (int k = random.nextBoolean() ? 0 : upTo(2); k > 0; k--) {
            text.append(random.nextBoolean() ? "*" : "/").append(part(depth));
        }
        return text.toString();
    }

    private String part(int depth) {
        int sort = random.nextInt(8);
        if (depth > 0 && sort == 0) {
            return "(" + sum(depth - 1) + ")";
        }
        if (depth > 0 && sort == 1) {
            return (random.nextBoolean() ? "min(" : "max (") + sum(depth - 1) + "," + sum(depth - 1) + ")";
        }
        if (sort == 2) {
            return "" + random.nextInt(10000);
        }
        if (sort < 5) {
            return "" + upTo(9);
        }
        if (words == IN_QUESTIONS && sort == 5) {
            return (random.nextBoolean() ? "wet " : "step ") + (depth > 0 && rarely() ? part(depth - 1) : upTo(5));
        }
        return words[random.nextInt(words.length)];
    }

    String question() {
        words = IN_QUESTIONS;
        String[] tests = {"first ", "last ", "often "};
        String[] sums = {"total ", "most ", "least "};
        String text = random.nextBoolean() ? tests[upTo(2)] + test(upTo(3)) : sums[upTo(2)] + sum(upTo(3));
        return perhapsSpoiled(rarely() ? deep() : text);
    }

    /** Six or seven open at once. */
    private String deep() {
        StringBuilder text = new StringBuilder("often ");
        StringBuilder behind = new StringBuilder();
        int outer = upTo(6);
        int count = 6 + upTo(1);
        for (int k = 0; k < count; k++) {
            boolean isTest = k < outer;
            int sort = upTo(2);
            text.append(isTest ? sort == 0 ? "not " : "[" : sort == 0 ? "wet " : sort == 1 ? "step " : "(");
            behind.insert(0, isTest ? sort == 0 ? "" : "]" : sort == 2 ? ")" : "");
            if (k == outer - 1 || outer == 0 && k == count - 1) {
                behind.insert(0, "=1 or all");
            }
        }
        return text + "1" + behind;
    }

    private String test(int depth) {
        StringBuilder text = new StringBuilder(fact(depth));
        for (int k = upTo(2); k > 0; k--) {
            text.append(random.nextBoolean() ? " or " : " and ").append(fact(depth));
        }
        return text.toString();
    }

    private String fact(int depth) {
        int sort = random.nextInt(6);
        if (depth > 0 && sort == 0) {
            return "not " + fact(depth - 1);
        }
        if (depth > 0 && sort == 1) {
            return "[" + test(depth - 1) + "]";
        }
        String[] signs = {"<", ">", " = "};
        return sort == 2 ? "all" : sum(depth) + signs[upTo(2)] + sum(depth);
    }

    private String perhapsSpoiled(String text) {
        if (random.nextInt(4) != 0) {
            return cut(text);
        }
        StringBuilder spoiled = new StringBuilder(text);
        for (int k = upTo(1); k >= 0; k--) {
            int at = upTo(spoiled.length());
            String scrap = SCRAPS[random.nextInt(SCRAPS.length)];
            switch (random.nextInt(4)) {
                case 0 -> spoiled.insert(at, scrap);
                case 1 -> spoiled.replace(at, Math.min(spoiled.length(), at + 1 + upTo(3)), scrap);
                case 2 -> spoiled.delete(at, Math.min(spoiled.length(), at + 1 + upTo(2)));
                default -> spoiled.setLength(rarely() ? at : spoiled.length());
            }
        }
        return cut(spoiled.toString());
    }

    private static String cut(String text) {
        return text.length() > 1600 ? text.substring(0, 1600) : text;
    }
}

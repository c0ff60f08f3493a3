import java.util.ArrayList;
import java.util.HashSet;
import java.util.List;
import java.util.Set;

/** Texts of the small language for the Model: all tokens first, then the grammar, the first FAULT thrown. */
final class ModelReader {
    private static final Set<String> OWN = Set.of("plain", "by", "high", "stone", "source", "farm", "at", "day", "pie",
            "caller", "bold", "kind", "goes", "bakes", "year", "been", "height", "down", "step", "wet", "number",
            "column", "row", "first", "or", "and", "not", "all", "min", "max");
    private static final Set<String> IN_GOES = Set.of("year", "pie", "been", "bold", "kind", "height", "down", "step");
    private static final Set<String> IN_BAKES = Set.of("year", "pie", "been", "wet");
    private static final Set<String> IN_QUESTIONS = Set.of("number", "column", "row", "day", "pie", "been", "year", "height");

    private record Token(String text, int start, boolean glued) {
        boolean isWord() {
            return !glued && text.matches("[a-z]+");
        }

        boolean isNumber() {
            return !glued && text.matches("[0-9]+");
        }
    }

    private final List<Token> tokens = new ArrayList<>();
    private int at;
    private Set<String> known = IN_GOES;
    private int open;
    String kind;
    Model.Sum asked;

    ModelReader(String text) {
        int k = 0;
        boolean mayGlue = false;
        while (k < text.length()) {
            String sort = sortOf(text.charAt(k));
            int from = k++;
            while (!sort.equals("sign") && k < text.length() && sortOf(text.charAt(k)).equals(sort)) {
                k++;
            }
            boolean solid = sort.equals("letter") || sort.equals("digit");
            if (!sort.equals("blank")) {
                tokens.add(new Token(text.substring(from, k), from, solid && mayGlue));
            }
            mayGlue = solid;
        }
        tokens.add(new Token("", text.length(), false));
    }

    private static String sortOf(char sign) {
        if (sign == 10 || sign == 32) {
            return "blank";
        }
        return sign >= 'a' && sign <= 'z' ? "letter" : sign >= '0' && sign <= '9' ? "digit" : "sign";
    }

    private Token now() {
        return tokens.get(at);
    }

    private boolean is(String text) {
        return !now().glued && now().text.equals(text);
    }

    private Model.Fault wrong() {
        return new Model.Fault(1, now().start);
    }

    private void take(String text) {
        if (!is(text)) {
            throw wrong();
        }
        at++;
    }

    private int number(int least, int most) {
        Token token = now();
        if (!token.isNumber()) {
            throw wrong();
        }
        if (token.text.length() > 4) {
            throw new Model.Fault(1, token.start + 4);
        }
        int number = Integer.parseInt(token.text);
        if (number < least || number > most) {
            throw new Model.Fault(2, token.start);
        }
        at++;
        return number;
    }

    // ---- plains

    Model.Told plain() {
        Model.Told told = new Model.Told();
        Set<String> names = new HashSet<>();
        take("plain");
        told.columns = number(2, 6);
        take("by");
        told.rows = number(2, 6);
        take(";");
        told.statements = 1;
        while (at < tokens.size() - 1) {
            if (told.statements == 80) {
                throw new Model.Fault(5, now().start);
            }
            statement(told, names);
            take(";");
            told.statements++;
        }
        if (told.goes == null) {
            told.goes = facts -> -facts.named("down");
        }
        if (told.bakes == null) {
            told.bakes = facts -> facts.named("pie");
        }
        return told;
    }

    private void statement(Model.Told told, Set<String> names) {
        Token first = now();
        boolean full = is("farm") && told.farms.size() == 6 || is("caller") && told.callers.size() == 5
                || is("goes") && told.goes != null || is("bakes") && told.bakes != null;
        if (full) {
            throw new Model.Fault(5, first.start);
        }
        if (!first.isWord()) {
            throw wrong();
        }
        at++;
        switch (first.text) {
            case "high" -> told.heights.put(cell(told, Set.of()), number(0, 9));
            case "stone" -> told.stones.add(cell(told, told.stones));
            case "source" -> told.source = number(0, told.columns - 1);
            case "farm" -> farm(told, names);
            case "caller" -> caller(told, names);
            case "goes" -> told.goes = sumOf(IN_GOES);
            case "bakes" -> told.bakes = sumOf(IN_BAKES);
            default -> throw new Model.Fault(1, first.start);
        }
    }

    private Model.Cell cell(Model.Told told, Set<Model.Cell> taken) {
        int column = number(0, told.columns - 1);
        int rowStart = now().start;
        Model.Cell cell = new Model.Cell(column, number(0, told.rows - 1));
        if (taken.contains(cell)) {
            throw new Model.Fault(2, rowStart);
        }
        return cell;
    }

    private void farm(Model.Told told, Set<String> names) {
        String name = name(names);
        take("at");
        Set<Model.Cell> taken = new HashSet<>();
        told.farms.forEach(farm -> taken.add(new Model.Cell(farm.column(), farm.row())));
        Model.Cell cell = cell(told, taken);
        take("day");
        int day = number(1, 40);
        take("pie");
        told.pies.add(number(0, 9));
        told.farms.add(new Model.Farm(name, cell.column(), cell.row(), day));
    }

    private void caller(Model.Told told, Set<String> names) {
        String name = name(names);
        take("bold");
        int bold = number(0, 9);
        take("kind");
        told.callers.add(new Model.Caller(name, bold, number(0, 9)));
    }

    private String name(Set<String> names) {
        Token token = now();
        if (!token.isWord() || OWN.contains(token.text)) {
            throw wrong();
        }
        if (token.text.length() > 6) {
            throw new Model.Fault(1, token.start + 6);
        }
        if (!names.add(token.text)) {
            throw new Model.Fault(3, token.start);
        }
        at++;
        return token.text;
    }

    // ---- sums

    private Model.Sum sumOf(Set<String> words) {
        known = words;
        open = 0;
        return sum();
    }

    private static long held(long number) {
        return number > 1000000 ? 1000000 : number < -1000000 ? -1000000 : number;
    }

    private Model.Sum sum() {
        Model.Sum left = product();
        while (is("+") || is("-")) {
            int sign = is("+") ? 1 : -1;
            at++;
            Model.Sum before = left;
            Model.Sum behind = product();
            left = facts -> held(before.of(facts) + sign * behind.of(facts));
        }
        return left;
    }

    private Model.Sum product() {
        Model.Sum left = part();
        while (is("*") || is("/")) {
            boolean times = is("*");
            at++;
            Model.Sum before = left;
            Model.Sum behind = part();
            left = facts -> times ? held(before.of(facts) * behind.of(facts)) : over(before.of(facts), behind.of(facts));
        }
        return left;
    }

    private static long over(long a, long b) {
        return b == 0 ? 0 : (long) Math.floor((double) a / b);
    }

    private void opening() {
        if (open == 6) {
            throw new Model.Fault(4, now().start);
        }
        open++;
        at++;
    }

    private void closing(String sign) {
        take(sign);
        open--;
    }

    private Model.Sum part() {
        Token token = now();
        if (token.isNumber()) {
            int number = number(0, 9999);
            return facts -> number;
        }
        if (is("(")) {
            opening();
            Model.Sum inside = sum();
            closing(")");
            return inside;
        }
        if (is("min") || is("max")) {
            at++;
            if (!is("(")) {
                throw wrong();
            }
            opening();
            Model.Sum one = sum();
            take(",");
            Model.Sum other = sum();
            closing(")");
            return facts -> token.text.equals("min") ? Math.min(one.of(facts), other.of(facts))
                    : Math.max(one.of(facts), other.of(facts));
        }
        if (known == IN_QUESTIONS && (is("wet") || is("step"))) {
            opening();
            Model.Sum whose = part();
            open--;
            return facts -> facts.by(token.text, whose.of(facts));
        }
        if (!token.isWord() || !known.contains(token.text)) {
            throw wrong();
        }
        at++;
        return facts -> facts.named(token.text);
    }

    // ---- questions

    void question() {
        known = IN_QUESTIONS;
        open = 0;
        kind = now().text;
        boolean tests = is("first") || is("last") || is("often");
        if (!tests && !is("total") && !is("most") && !is("least")) {
            throw wrong();
        }
        at++;
        asked = tests ? test() : sum();
        if (at < tokens.size() - 1) {
            throw wrong();
        }
    }

    private Model.Sum test() {
        Model.Sum left = both();
        while (is("or")) {
            at++;
            Model.Sum before = left;
            Model.Sum behind = both();
            left = facts -> before.of(facts) == 1 || behind.of(facts) == 1 ? 1 : 0;
        }
        return left;
    }

    private Model.Sum both() {
        Model.Sum left = fact();
        while (is("and")) {
            at++;
            Model.Sum before = left;
            Model.Sum behind = fact();
            left = facts -> before.of(facts) == 1 && behind.of(facts) == 1 ? 1 : 0;
        }
        return left;
    }

    private Model.Sum fact() {
        if (is("not")) {
            opening();
            Model.Sum inside = fact();
            open--;
            return facts -> inside.of(facts) == 1 ? 0 : 1;
        }
        if (is("[")) {
            opening();
            Model.Sum inside = test();
            closing("]");
            return inside;
        }
        if (is("all")) {
            at++;
            return facts -> 1;
        }
        Model.Sum one = sum();
        String sign = now().text;
        if (!is("<") && !is(">") && !is("=")) {
            throw wrong();
        }
        at++;
        Model.Sum other = sum();
        return facts -> {
            int order = Long.compare(one.of(facts), other.of(facts));
            return order == (sign.equals("<") ? -1 : sign.equals(">") ? 1 : 0) ? 1 : 0;
        };
    }
}

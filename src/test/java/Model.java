import java.util.ArrayDeque;
import java.util.ArrayList;
import java.util.Deque;
import java.util.HashMap;
import java.util.HashSet;
import java.util.List;
import java.util.Map;
import java.util.Set;
import java.util.TreeSet;

/** The document once more, in its plainest form and by other means, to be held against the class. */
final class Model {
    static final class Fault extends RuntimeException {
        private static final long serialVersionUID = 1L;
        final int which;
        final int place;

        Fault(int which, int place) {
            super("FAULT " + which + " at " + place);
            this.which = which;
            this.place = place;
        }
    }

    interface Sum {
        long of(Facts facts);
    }

    interface Facts {
        long named(String word);

        default long by(String word, long caller) {
            throw new IllegalStateException(word);
        }
    }

    record Farm(String name, int column, int row, int day) { }

    record Caller(String name, int bold, int kind) { }

    record Year(int number, int caller, int watered) { }

    record Cell(int column, int row) { }

    static final class Told {
        int columns;
        int rows;
        int source;
        int statements;
        final Map<Cell, Integer> heights = new HashMap<>();
        final Set<Cell> stones = new HashSet<>();
        final List<Farm> farms = new ArrayList<>();
        final List<Integer> pies = new ArrayList<>();
        final List<Caller> callers = new ArrayList<>();
        Sum goes;
        Sum bakes;
    }

    static final class World {
        int year;
        Map<Cell, Integer> heights = new HashMap<>();
        Set<Cell> stones = new HashSet<>();
        Map<Cell, Integer> wet = new HashMap<>();
        List<Integer> pies = new ArrayList<>();
        List<Year> kept = new ArrayList<>();

        World copy() {
            World other = new World();
            other.year = year;
            other.heights = new HashMap<>(heights);
            other.stones = new HashSet<>(stones);
            other.wet = new HashMap<>(wet);
            other.pies = new ArrayList<>(pies);
            other.kept = new ArrayList<>(kept);
            return other;
        }
    }

    String tape = "";
    Told told;
    World world = new World();
    final Deque<World> past = new ArrayDeque<>();
    List<int[]> seen = new ArrayList<>();
    long seedNow = 1;
    int fault;
    int faultAt = -1;
    List<Integer> image = new ArrayList<>();
    final int[] refused = new int[6];

    // ---- the tape and texts

    int feed(int... numbers) {
        if (tape.length() + 20 > 1600) {
            return refuse(0);
        }
        StringBuilder text = new StringBuilder(tape);
        for (int number : numbers) {
            text.append((char) (number >>> 24)).append((char) (number >>> 16 & 255));
            text.append((char) (number >>> 8 & 255)).append((char) (number & 255));
        }
        tape = text.toString();
        return tape.length();
    }

    boolean end(int n) {
        if (n < 0 || n > tape.length()) {
            return refuse(0) == 0;
        }
        tape = tape.substring(0, n);
        return true;
    }

    int plain() {
        String text = tape;
        tape = "";
        fault = 0;
        faultAt = -1;
        try {
            told = new ModelReader(text).plain();
        } catch (Fault found) {
            fault = found.which;
            faultAt = found.place;
            return refuse(1);
        }
        world = new World();
        world.heights.putAll(told.heights);
        world.stones.addAll(told.stones);
        world.pies.addAll(told.pies);
        past.clear();
        seen.clear();
        return told.statements;
    }

    long ask() {
        String text = tape;
        tape = "";
        if (told == null) {
            return -1000000000000000L;
        }
        fault = 0;
        faultAt = -1;
        ModelReader reader = new ModelReader(text);
        try {
            reader.question();
        } catch (Fault found) {
            fault = found.which;
            faultAt = found.place;
            return -1000000000000000L;
        }
        List<Long> worths = new ArrayList<>();
        for (int farm = 0; farm < told.farms.size(); farm++) {
            worths.add(reader.asked.of(factsOf(farm)));
        }
        return switch (reader.kind) {
            case "first" -> worths.indexOf(1L);
            case "last" -> worths.lastIndexOf(1L);
            case "often", "total" -> worths.stream().mapToLong(Long::longValue).sum();
            case "most" -> worths.stream().mapToLong(Long::longValue).max().orElse(0);
            default -> worths.stream().mapToLong(Long::longValue).min().orElse(0);
        };
    }

    private Facts factsOf(int number) {
        Farm farm = told.farms.get(number);
        Cell cell = new Cell(farm.column, farm.row);
        return new Facts() {
            @Override
            public long named(String word) {
                return switch (word) {
                    case "number" -> number;
                    case "column" -> farm.column;
                    case "row" -> farm.row;
                    case "day" -> farm.day;
                    case "pie" -> world.pies.get(number);
                    case "been" -> world.wet.getOrDefault(cell, 0);
                    case "year" -> world.year;
                    case "height" -> world.heights.getOrDefault(cell, 0);
                    default -> throw new IllegalStateException(word);
                };
            }

            @Override
            public long by(String word, long caller) {
                boolean isOne = caller >= 0 && caller < told.callers.size();
                int step = isOne ? wayOf((int) caller, world).indexOf(cell) : -1;
                return word.equals("step") ? step : step >= 0 && step <= farm.day ? 1 : 0;
            }
        };
    }

    int fault(int what) {
        return what == 0 ? fault : what == 1 ? faultAt : -1;
    }

    private int refuse(int which) {
        refused[which]++;
        return -1;
    }

    // ---- looks

    int has(int what) {
        return switch (what) {
            case 0 -> told == null ? 0 : told.columns;
            case 1 -> told == null ? 0 : told.rows;
            case 2 -> told == null ? 0 : told.farms.size();
            case 3 -> told == null ? 0 : told.callers.size();
            case 4 -> world.year;
            case 5 -> world.stones.size();
            case 6 -> told == null ? -1 : told.source;
            case 7 -> world.pies.stream().mapToInt(Integer::intValue).sum();
            case 8 -> Math.min(40, world.kept.size());
            case 9 -> seen.size();
            case 10 -> past.size();
            default -> -1;
        };
    }

    int letter(int kind, int which, int k) {
        if (kind < 0 || kind > 1 || k < 0 || k > 5 || (kind == 0 ? !isFarm(which) : !isCaller(which))) {
            return -1;
        }
        String name = kind == 0 ? told.farms.get(which).name : told.callers.get(which).name;
        return k < name.length() ? name.charAt(k) - 'a' + 1 : 0;
    }

    private boolean isFarm(int farm) {
        return told != null && farm >= 0 && farm < told.farms.size();
    }

    private boolean isCaller(int caller) {
        return told != null && caller >= 0 && caller < told.callers.size();
    }

    private boolean isCell(int column, int row) {
        return told != null && column >= 0 && column < told.columns && row >= 0 && row < told.rows;
    }

    private int farmIn(Cell cell) {
        for (int k = 0; k < told.farms.size(); k++) {
            if (told.farms.get(k).column == cell.column && told.farms.get(k).row == cell.row) {
                return k;
            }
        }
        return -1;
    }

    int cell(int column, int row, int what) {
        if (!isCell(column, row)) {
            return -1;
        }
        Cell cell = new Cell(column, row);
        return switch (what) {
            case 0 -> world.heights.getOrDefault(cell, 0);
            case 1 -> world.stones.contains(cell) ? 1 : 0;
            case 2 -> world.wet.getOrDefault(cell, 0);
            case 3 -> farmIn(cell);
            default -> -1;
        };
    }

    int farm(int farm, int what) {
        if (!isFarm(farm)) {
            return -1;
        }
        Farm one = told.farms.get(farm);
        return switch (what) {
            case 0 -> one.column;
            case 1 -> one.row;
            case 2 -> one.day;
            case 3 -> world.pies.get(farm);
            default -> -1;
        };
    }

    int caller(int caller, int what) {
        if (!isCaller(caller) || what < 0 || what > 1) {
            return -1;
        }
        return what == 0 ? told.callers.get(caller).bold : told.callers.get(caller).kind;
    }

    int kept(int k, int what) {
        List<Year> last = world.kept.subList(Math.max(0, world.kept.size() - 40), world.kept.size());
        if (k < 0 || k >= last.size()) {
            return -1;
        }
        Year year = last.get(k);
        return what == 0 ? year.number : what == 1 ? year.caller : what == 2 ? year.watered : -1;
    }

    // ---- ways

    private List<Cell> wayOf(int caller, World in) {
        List<Cell> way = new ArrayList<>();
        Cell at = told == null || !isCaller(caller) ? null : new Cell(told.source, 0);
        while (at != null && !in.stones.contains(at)) {
            way.add(at);
            at = at.row == told.rows - 1 ? null : next(caller, in, way);
        }
        return way;
    }

    private Cell next(int caller, World in, List<Cell> way) {
        Cell from = way.get(way.size() - 1);
        Cell best = null;
        long most = 0;
        for (int row = 0; row < told.rows; row++) {
            for (int column = 0; column < told.columns; column++) {
                Cell to = new Cell(column, row);
                if (!way.contains(to) && flows(in, from, to)) {
                    long worth = told.goes.of(goesFacts(caller, in, to, way.size()));
                    if (best == null || worth > most) {
                        best = to;
                        most = worth;
                    }
                }
            }
        }
        return best;
    }

    private boolean flows(World in, Cell from, Cell to) {
        boolean next = Math.abs(from.column - to.column) + Math.abs(from.row - to.row) == 1;
        return next && !in.stones.contains(to) && in.heights.getOrDefault(to, 0) <= in.heights.getOrDefault(from, 0);
    }

    private Facts goesFacts(int caller, World in, Cell to, int step) {
        return word -> switch (word) {
            case "year" -> in.year;
            case "pie" -> farmIn(to) < 0 ? 0 : in.pies.get(farmIn(to));
            case "been" -> in.wet.getOrDefault(to, 0);
            case "bold" -> told.callers.get(caller).bold;
            case "kind" -> told.callers.get(caller).kind;
            case "height" -> in.heights.getOrDefault(to, 0);
            case "down" -> told.rows - 1 - to.row;
            case "step" -> step;
            default -> throw new IllegalStateException(word);
        };
    }

    private int wateredBy(List<Cell> way) {
        int bits = 0;
        for (int k = 0; told != null && k < told.farms.size(); k++) {
            Farm farm = told.farms.get(k);
            int step = way.indexOf(new Cell(farm.column, farm.row));
            bits |= step >= 0 && step <= farm.day ? 1 << k : 0;
        }
        return bits;
    }

    private static int part(Cell cell, int what) {
        return what == 0 ? cell.column : what == 1 ? cell.row : -1;
    }

    int way(int caller, int k, int what) {
        List<Cell> way = wayOf(caller, world);
        return k < 0 || k >= way.size() ? -1 : part(way.get(k), what);
    }

    int leads(int caller, int what) {
        List<Cell> way = wayOf(caller, world);
        if (way.isEmpty()) {
            return -1;
        }
        return switch (what) {
            case 0 -> way.size() - 1;
            case 1 -> way.get(way.size() - 1).row == told.rows - 1 ? 1 : 0;
            case 2 -> wateredBy(way);
            default -> -1;
        };
    }

    int best() {
        int best = -1;
        int score = 0;
        for (int caller = 0; isCaller(caller); caller++) {
            List<Cell> way = wayOf(caller, world);
            int own = 1000 * Integer.bitCount(wateredBy(way)) - way.size();
            if (!way.isEmpty() && (best < 0 || own > score)) {
                best = caller;
                score = own;
            }
        }
        return best;
    }

    /** The fewest STEPS for the told FARMS alone, STEP by STEP over all that can be so far. */
    private int fewest(int farms) {
        Cell source = told == null ? null : new Cell(told.source, 0);
        if (source == null || world.stones.contains(source)) {
            return -1;
        }
        Set<List<Object>> now = new HashSet<>();
        now.add(List.of(source, gained(source, 0, 0)));
        for (int step = 0; step <= 40; step++) {
            Set<List<Object>> then = new HashSet<>();
            for (List<Object> state : now) {
                int had = (Integer) state.get(1);
                if ((had & farms) == farms) {
                    return step;
                }
                Cell from = (Cell) state.get(0);
                for (int side = 0; side < 4; side++) {
                    Cell to = new Cell(from.column + (side - 1) % 2, from.row + (side - 2) % 2);
                    if (isCell(to.column, to.row) && flows(world, from, to)) {
                        then.add(List.of(to, gained(to, had, step + 1)));
                    }
                }
            }
            now = then;
        }
        return -1;
    }

    private int gained(Cell cell, int had, int step) {
        int farm = farmIn(cell);
        return farm >= 0 && step <= told.farms.get(farm).day ? had | 1 << farm : had;
    }

    int least(int farms) {
        return told == null || farms < 0 || farms >= 1 << told.farms.size() ? -1 : fewest(farms);
    }

    int dry() {
        if (told == null) {
            return -1;
        }
        int all = (1 << told.farms.size()) - 1;
        TreeSet<Integer> fits = new TreeSet<>();
        for (int left = 0; left <= all; left++) {
            if (fewest(all - left) >= 0) {
                fits.add(100 * Integer.bitCount(left) + left);
            }
        }
        return fits.isEmpty() ? -1 : fits.first() % 100;
    }

    // ---- pies, mills

    int bid(int farm, int caller) {
        World in = world.copy();
        for (int pie = 0; isFarm(farm) && pie <= 9; pie++) {
            in.pies.set(farm, pie);
            if ((wateredBy(wayOf(caller, in)) >> farm & 1) == 1) {
                return pie;
            }
        }
        return -1;
    }

    int rest(int caller) {
        if (wayOf(caller, world).isEmpty()) {
            return -1;
        }
        int best = -1;
        for (int set = 0; set < 1 << told.farms.size(); set++) {
            boolean rests = true;
            for (int farm = 0; farm < told.farms.size(); farm++) {
                rests &= welfare(caller, set, farm) >= welfare(caller, set ^ 1 << farm, farm);
            }
            if (rests && (best < 0 || Integer.bitCount(set) > Integer.bitCount(best))) {
                best = set;
            }
        }
        return best;
    }

    private int welfare(int caller, int set, int farm) {
        World in = world.copy();
        for (int k = 0; k < told.farms.size(); k++) {
            in.pies.set(k, (set >> k & 1) * world.pies.get(k));
        }
        boolean watered = (wateredBy(wayOf(caller, in)) >> farm & 1) == 1;
        return (watered ? 10 : 0) - in.pies.get(farm);
    }

    int parts(int one, int other, int what) {
        List<Cell> first = wayOf(one, world);
        List<Cell> second = wayOf(other, world);
        if (one == other || first.isEmpty() || second.isEmpty() || first.equals(second)) {
            return -1;
        }
        int alike = 0;
        while (alike < first.size() && alike < second.size() && first.get(alike).equals(second.get(alike))) {
            alike++;
        }
        if (what == 0) {
            return alike - 1;
        }
        for (Cell cell : first.subList(alike, first.size())) {
            if (second.subList(alike, second.size()).contains(cell)) {
                return part(cell, what - 1);
            }
        }
        return -1;
    }

    int mill(int what) {
        Cell best = null;
        int most = 0;
        for (int place = 1; told != null && place <= told.columns * told.rows; place++) {
            Cell cell = new Cell((place - 1) % told.columns, (place - 1) / told.columns);
            int count = 0;
            for (int caller = 0; isCaller(caller); caller++) {
                count += wayOf(caller, world).contains(cell) ? 1 : 0;
            }
            if (count > most && !cell.equals(new Cell(told.source, 0))) {
                most = count;
                best = cell;
            }
        }
        return best == null ? -1 : what == 2 ? most : part(best, what);
    }

    // ---- who called

    int see() {
        String text = tape;
        tape = "";
        List<int[]> rows = new ArrayList<>();
        for (int k = 0; k + 2 < text.length(); k += 3) {
            rows.add(new int[] {text.charAt(k), text.charAt(k + 1), text.charAt(k + 2)});
        }
        boolean fits = text.length() % 3 == 0 && rows.size() >= 1 && rows.size() <= 16;
        for (int[] row : rows) {
            fits &= row[0] <= 40 && isCell(row[1], row[2]);
        }
        if (!fits) {
            return refuse(1);
        }
        seen = rows;
        return rows.size();
    }

    int who() {
        int bits = 0;
        for (int caller = 0; isCaller(caller); caller++) {
            boolean fits = true;
            for (int[] row : seen) {
                fits &= way(caller, row[0], 0) == row[1] && way(caller, row[0], 1) == row[2];
            }
            bits |= fits ? 1 << caller : 0;
        }
        return bits;
    }

    int tells(int what) {
        int left = who();
        if (left == 0 || what < 0 || what > 1) {
            return -1;
        }
        int telling = -1;
        int fewest = 100;
        for (int step = 0; step <= 40; step++) {
            Map<String, Integer> groups = new HashMap<>();
            for (int caller = 0; isCaller(caller); caller++) {
                if ((left >> caller & 1) == 1) {
                    groups.merge(way(caller, step, 0) + " " + way(caller, step, 1), 1, Integer::sum);
                }
            }
            int most = groups.values().stream().mapToInt(Integer::intValue).max().orElse(0);
            if (most < fewest) {
                fewest = most;
                telling = step;
            }
        }
        return what == 0 ? telling : fewest;
    }

    // ---- acts

    private void remember() {
        past.addLast(world.copy());
        if (past.size() > 20) {
            past.removeFirst();
        }
    }

    private int passYear(int caller) {
        List<Cell> way = wayOf(caller, world);
        int bits = wateredBy(way);
        for (Cell cell : way) {
            world.wet.put(cell, Math.min(99, world.wet.getOrDefault(cell, 0) + 1));
        }
        for (int k = 0; k < told.farms.size(); k++) {
            int farm = k;
            Farm one = told.farms.get(k);
            long pie = told.bakes.of(word -> switch (word) {
                case "year" -> world.year;
                case "pie" -> world.pies.get(farm);
                case "been" -> world.wet.getOrDefault(new Cell(one.column, one.row), 0);
                case "wet" -> bits >> farm & 1;
                default -> throw new IllegalStateException(word);
            });
            world.pies.set(k, (int) Math.max(0, Math.min(9, pie)));
        }
        world.kept.add(new Year(world.year, caller, Integer.bitCount(bits)));
        world.year++;
        return Integer.bitCount(bits);
    }

    int spring(int caller) {
        if (wayOf(caller, world).isEmpty() || world.year > 998) {
            return refuse(2);
        }
        remember();
        return passYear(caller);
    }

    int chance(int n) {
        if (n < 1 || n > 100 || wayOf(0, world).isEmpty() || world.year + n > 999) {
            return refuse(2);
        }
        remember();
        int sum = 0;
        for (int k = 0; k < n; k++) {
            seedNow = (1103515245L * seedNow + 12345L) % 2147483648L;
            sum += passYear((int) (seedNow / 64 % told.callers.size()));
        }
        return sum;
    }

    boolean bake(int farm, int pie) {
        if (!isFarm(farm) || pie < 0 || pie > 9 || world.pies.get(farm) == pie) {
            return refuse(3) == 0;
        }
        remember();
        world.pies.set(farm, pie);
        return true;
    }

    int dig(int column, int row) {
        Cell cell = new Cell(column, row);
        if (!isCell(column, row) || world.stones.contains(cell) || world.heights.getOrDefault(cell, 0) == 0) {
            return refuse(3);
        }
        remember();
        world.heights.merge(cell, -1, Integer::sum);
        return world.heights.get(cell);
    }

    boolean stone(int column, int row, int on) {
        Cell cell = new Cell(column, row);
        if (!isCell(column, row) || on < 0 || on > 1 || world.stones.contains(cell) == (on == 1)) {
            return refuse(3) == 0;
        }
        remember();
        if (on == 1) {
            world.stones.add(cell);
        } else {
            world.stones.remove(cell);
        }
        return true;
    }

    boolean undo() {
        if (past.isEmpty()) {
            return refuse(4) == 0;
        }
        world = past.removeLast();
        return true;
    }

    boolean seed(int seed) {
        if (seed < 0) {
            return refuse(5) == 0;
        }
        seedNow = seed;
        return true;
    }

    // ---- images, refusals

    int image() {
        image = new ArrayList<>(List.of(world.year / 256, world.year % 256));
        for (int row = 0; told != null && row < told.rows; row++) {
            for (int column = 0; column < told.columns; column++) {
                image.add(cell(column, row, 0));
                image.add(cell(column, row, 1));
                image.add(cell(column, row, 2));
            }
        }
        image.addAll(world.pies);
        image.add(seal(image));
        return image.size();
    }

    private static int seal(List<Integer> ahead) {
        int c = 173;
        for (int one : ahead) {
            c = (3 * c + one) % 251;
        }
        return c;
    }

    int octet(int k) {
        return k < 0 || k >= image.size() ? -1 : image.get(k);
    }

    boolean on() {
        String text = tape;
        tape = "";
        int cells = told == null ? 0 : told.columns * told.rows;
        if (told == null || text.length() != 3 + 3 * cells + told.farms.size()) {
            return refuse(5) == 0;
        }
        List<Integer> bytes = new ArrayList<>();
        text.chars().forEach(bytes::add);
        int last = bytes.remove(bytes.size() - 1);
        World shown = new World();
        shown.year = 256 * bytes.get(0) + bytes.get(1);
        boolean fits = last == seal(bytes) && shown.year < 1000;
        for (int k = 0; k < cells; k++) {
            Cell cell = new Cell(k % told.columns, k / told.columns);
            shown.heights.put(cell, bytes.get(3 * k + 2));
            if (bytes.get(3 * k + 3) == 1) {
                shown.stones.add(cell);
            }
            shown.wet.put(cell, bytes.get(3 * k + 4));
            fits &= bytes.get(3 * k + 2) < 10 && bytes.get(3 * k + 3) < 2 && bytes.get(3 * k + 4) < 100;
        }
        for (int k = 2 + 3 * cells; k < bytes.size(); k++) {
            shown.pies.add(bytes.get(k));
            fits &= bytes.get(k) < 10;
        }
        if (!fits) {
            return refuse(5) == 0;
        }
        world = shown;
        past.clear();
        return true;
    }

    int status(int what) {
        return what < 0 || what > 5 ? -1 : refused[what];
    }
}

import java.util.Arrays;

/**
 * A plain told as a text, through which callers lead the river: their ways, years, pies, acts and questions.
 *
 * <p>Words in capitals are those of the document, ../shared/DOC.md.
 */
public final class CalledRiver {
    /** There is none; it is refused. */
    public static final int NONE = -1;
    /** Told where a number below 0 may be one. */
    public static final long NOTHING = -1000000000000000L;

    private static final int TAPE_MOST = 1600;
    private static final int FEED_BYTES = 20;
    private static final int SIDE_LEAST = 2;
    private static final int SIDE_MOST = 6;
    private static final int CELLS_MOST = SIDE_MOST * SIDE_MOST;
    private static final int FARMS_MOST = 6;
    private static final int SETS_MOST = 1 << FARMS_MOST;
    private static final int CALLERS_MOST = 5;
    private static final int STATEMENTS_MOST = 80;
    /** Heights, pies, how bold and how kind one is go from 0 to this. */
    private static final int DEGREE_MOST = 9;
    private static final int DAY_MOST = 40;
    private static final int STEP_MOST = 40;
    private static final int YEAR_MOST = 999;
    private static final int WET_MOST = 99;
    private static final int UNDO_MOST = 20;
    private static final int KEPT_TOLD = 40;
    private static final int SEEN_MOST = 16;
    private static final int CHANCE_MOST = 100;
    private static final int NAME_LETTERS = 6;
    private static final int NUMBER_DIGITS = 4;
    private static final int NUMBER_MOST = 9999;
    private static final int OPEN_MOST = 6;
    private static final int SUM_MOST = 1000000;
    private static final int WATER_WORTH = 10;
    private static final int SIDES = 4;
    /** The CELLS beside one, in the order row by row. */
    private static final int[] ACROSS = {0, -1, 1, 0};
    private static final int[] DOWNWARD = {-1, 0, 0, 1};

    private static final int NO_SUCH_TEXT = 1;
    private static final int BAD_NUMBER = 2;
    private static final int NAME_TAKEN = 3;
    private static final int TOO_DEEP = 4;
    private static final int TOO_MANY = 5;

    private static final int REFUSED_TAPE = 0;
    private static final int REFUSED_TEXT = 1;
    private static final int REFUSED_YEAR = 2;
    private static final int REFUSED_CHANGE = 3;
    private static final int REFUSED_UNDO = 4;
    private static final int REFUSED_STATE = 5;
    private static final int REFUSALS = 6;

    private static final String OWN_WORDS =
            "plain by high stone source farm at day pie caller bold kind goes bakes year been height down step wet number column row first or and not all min max";

    private static final String STATEMENT_WORDS = "high stone source farm caller goes bakes";
    private static final int HIGH_STATEMENT = 0;
    private static final int STONE_STATEMENT = 1;
    private static final int SOURCE_STATEMENT = 2;
    private static final int FARM_STATEMENT = 3;
    private static final int CALLER_STATEMENT = 4;
    private static final int GOES_STATEMENT = 5;
    private static final int BAKES_STATEMENT = 6;

    private static final String QUESTION_WORDS = "first last often total most least";
    private static final int FIRST_QUESTION = 0;
    private static final int LAST_QUESTION = 1;
    private static final int OFTEN_QUESTION = 2;
    private static final int TOTAL_QUESTION = 3;
    private static final int MOST_QUESTION = 4;
    private static final int LEAST_QUESTION = 5;

    /** What a SUM may name; the place of a word here is the place of its worth in a row of facts. */
    private static final String FACT_WORDS = "year pie been bold kind height down step wet number column row day";
    private static final int YEAR_FACT = 0;
    private static final int PIE_FACT = 1;
    private static final int BEEN_FACT = 2;
    private static final int BOLD_FACT = 3;
    private static final int KIND_FACT = 4;
    private static final int HEIGHT_FACT = 5;
    private static final int DOWN_FACT = 6;
    private static final int STEP_FACT = 7;
    private static final int WET_FACT = 8;
    private static final int NUMBER_FACT = 9;
    private static final int COLUMN_FACT = 10;
    private static final int ROW_FACT = 11;
    private static final int DAY_FACT = 12;
    /** From here on, a place for each CALLER: whether he would water the FARM that is asked of. */
    private static final int WET_BY_FACT = 13;
    /** From here on, a place for each CALLER: by which STEP his WAY comes to that FARM. */
    private static final int STEP_BY_FACT = WET_BY_FACT + CALLERS_MOST;
    private static final int FACTS = STEP_BY_FACT + CALLERS_MOST;

    private static final int SHARED_FACTS = 1 << YEAR_FACT | 1 << PIE_FACT | 1 << BEEN_FACT;
    private static final int GOES_FACTS = SHARED_FACTS | 1 << BOLD_FACT | 1 << KIND_FACT | 1 << HEIGHT_FACT
            | 1 << DOWN_FACT | 1 << STEP_FACT;
    private static final int BAKES_FACTS = SHARED_FACTS | 1 << WET_FACT;
    private static final int QUESTION_FACTS = SHARED_FACTS | 1 << HEIGHT_FACT | 1 << NUMBER_FACT
            | 1 << COLUMN_FACT | 1 << ROW_FACT | 1 << DAY_FACT;

    /** Steps of a Code below this are numbers; from it on they are facts, from FIRST_OPERATOR on operators. */
    private static final int FIRST_FACT = NUMBER_MOST + 1;
    private static final int FIRST_OPERATOR = FIRST_FACT + FACTS;
    private static final int NOT = FIRST_OPERATOR;
    private static final int WET_BY = FIRST_OPERATOR + 1;
    private static final int STEP_BY = FIRST_OPERATOR + 2;
    private static final int FIRST_OF_TWO = FIRST_OPERATOR + 3;
    private static final int PLUS = FIRST_OF_TWO;
    private static final int MINUS = FIRST_OF_TWO + 1;
    private static final int TIMES = FIRST_OF_TWO + 2;
    private static final int OVER = FIRST_OF_TWO + 3;
    private static final int LESSER = FIRST_OF_TWO + 4;
    private static final int GREATER = FIRST_OF_TWO + 5;
    private static final int BELOW = FIRST_OF_TWO + 6;
    private static final int ABOVE = FIRST_OF_TWO + 7;
    private static final int EQUAL = FIRST_OF_TWO + 8;
    /** Seven levels hold at most some five open numbers each. */
    private static final int STACK_MOST = 64;

    private static final int IMAGE_MOST = 3 + 3 * CELLS_MOST + FARMS_MOST;
    private static final int IMAGE_SEED = 173;
    private static final int IMAGE_MODULUS = 251;

    private final Tape tape = new Tape();
    private final Code question = new Code();
    private final SumReader sumReader = new SumReader(tape, question);
    private Plain told = new Plain();
    /** A text with a FAULT must leave all as it is, so it is read into this one, which then takes told's place. */
    private Plain draft = new Plain();
    private final PlainReader plainReader = new PlainReader(tape, sumReader, draft);
    private final Land land = new Land();
    private final Land trial = new Land();
    private final Past past = new Past();
    private final Led led = new Led();
    private final Sight sight = new Sight();
    private final Way[] ways = new Way[CALLERS_MOST];
    private final Way tried = new Way();
    private final Way noWay = new Way();
    private final int[] facts = new int[FACTS];
    private final int[] wateredBySet = new int[SETS_MOST];
    private final Picture picture = new Picture();
    private final int[] refused = new int[REFUSALS];
    private long seedNow = 1;

    /** No plain, nobody. */
    public CalledRiver() {
        for (int k = 0; k < CALLERS_MOST; k++) {
            ways[k] = new Way();
        }
    }

    /** Twenty bytes come behind those on the tape, of each number the highest first: how many there are. */
    public int feed(int a, int b, int c, int d, int e) {
        if (tape.length + FEED_BYTES > TAPE_MOST) {
            return refuse(REFUSED_TAPE);
        }
        tape.append(a);
        tape.append(b);
        tape.append(c);
        tape.append(d);
        tape.append(e);
        return tape.length;
    }

    /** The tape has its first n bytes alone. */
    public boolean end(int n) {
        if (n < 0 || n > tape.length) {
            refuse(REFUSED_TAPE);
            return false;
        }
        tape.length = n;
        return true;
    }

    /** The tape is THE PLAIN: how many STATEMENTS. */
    public int plain() {
        int statements = plainReader.readPlain(draft);
        tape.length = 0;
        if (tape.fault != 0) {
            return refuse(REFUSED_TEXT);
        }
        Plain before = told;
        told = draft;
        draft = before;
        land.begin(told);
        past.forget();
        sight.count = 0;
        forgetWays();
        return statements;
    }

    /** The FAULT of the latest plain() or ask() (0), its place (1). */
    public int fault(int what) {
        return what == 0 ? tape.fault : what == 1 ? tape.faultAt : NONE;
    }

    /** How many there are of what the document lists, 0 .. 10. */
    public int has(int what) {
        switch (what) {
            case 0: return told.columns;
            case 1: return told.rows;
            case 2: return told.farms;
            case 3: return told.callers;
            case 4: return land.year;
            case 5: return land.stones();
            case 6: return told.columns == 0 ? NONE : told.source;
            case 7: return land.pies();
            case 8: return Math.min(land.yearsKept, KEPT_TOLD);
            case 9: return sight.count;
            case 10: return past.count;
            default: return NONE;
        }
    }

    /** Letter k of the NAME of a FARM (kind 0), a CALLER (1). */
    public int letter(int kind, int which, int k) {
        if (k < 0 || k >= NAME_LETTERS) {
            return NONE;
        }
        if (kind == 0 && told.isFarm(which)) {
            return Tape.letterOf(told.farmName[which], k);
        }
        if (kind == 1 && told.isCaller(which)) {
            return Tape.letterOf(told.callerName[which], k);
        }
        return NONE;
    }

    /** Of a CELL: 0 height, 1 whether it is stone, 2 how often it was wet, 3 its FARM. */
    public int cell(int column, int row, int what) {
        int place = told.placeOf(column, row);
        if (place == NONE) {
            return NONE;
        }
        switch (what) {
            case 0: return land.height[place];
            case 1: return land.stone[place];
            case 2: return land.wet[place];
            case 3: return told.farmIn[place];
            default: return NONE;
        }
    }

    /** Of a FARM: 0 column, 1 row, 2 day, 3 pie. */
    public int farm(int farm, int what) {
        if (!told.isFarm(farm)) {
            return NONE;
        }
        switch (what) {
            case 0: return told.columnOf(told.farmPlace[farm]);
            case 1: return told.rowOf(told.farmPlace[farm]);
            case 2: return told.farmDay[farm];
            case 3: return land.pie[farm];
            default: return NONE;
        }
    }

    /** Of a CALLER: 0 how bold, 1 how kind. */
    public int caller(int caller, int what) {
        if (!told.isCaller(caller)) {
            return NONE;
        }
        return what == 0 ? told.bold[caller] : what == 1 ? told.kind[caller] : NONE;
    }

    /** Of what is told as KEPT, the k-th from the oldest on: 0 YEAR, 1 CALLER, 2 how many WATERED. */
    public int kept(int k, int what) {
        int count = Math.min(land.yearsKept, KEPT_TOLD);
        if (k < 0 || k >= count) {
            return NONE;
        }
        return past.tell(land.yearsKept - count + k, what);
    }

    // ---- ways

    /** Of the WAY of a CALLER now, by the STEP k: column (what 0), row (1). */
    public int way(int caller, int k, int what) {
        return placePart(wayOf(caller).placeBy(k), what);
    }

    /** Of the WAY of a CALLER now: 0 how many STEPS, 1 how it ends (0 LAKE, 1 SEA), 2 FARMS WATERED, as bits. */
    public int leads(int caller, int what) {
        Way way = wayOf(caller);
        if (way.steps == NONE) {
            return NONE;
        }
        switch (what) {
            case 0: return way.steps;
            case 1: return way.sea ? 1 : 0;
            case 2: return way.watered;
            default: return NONE;
        }
    }

    /** The CALLER by whom most FARMS are WATERED; of like ones the one of the shortest WAY, then the first. */
    public int best() {
        int best = NONE;
        for (int caller = 0; caller < told.callers; caller++) {
            if (wayOf(caller).steps != NONE && (best == NONE || wayOf(caller).isBetterThan(wayOf(best)))) {
                best = caller;
            }
        }
        return best;
    }

    /** The fewest STEPS of a LED way by which all told FARMS (bits) are WATERED. */
    public int least(int farms) {
        if (farms < 0 || farms >= 1 << told.farms) {
            return NONE;
        }
        led.search(told, land);
        return led.fewestFor(farms);
    }

    /** The fewest of all FARMS to be left out, so that there is a LED way for all others; the least such bits. */
    public int dry() {
        led.search(told, land);
        int all = (1 << told.farms) - 1;
        int dry = NONE;
        for (int left = 0; left <= all; left++) {
            boolean fewer = dry == NONE || Integer.bitCount(left) < Integer.bitCount(dry);
            if (fewer && led.fewestFor(all & ~left) != NONE) {
                dry = left;
            }
        }
        return dry;
    }

    // ---- pies, mills

    /** The least pie by which a FARM is WATERED by a CALLER, the others as they are. */
    public int bid(int farm, int caller) {
        if (!told.isFarm(farm) || !told.isCaller(caller)) {
            return NONE;
        }
        trial.copy(land);
        for (int pie = 0; pie <= DEGREE_MOST; pie++) {
            trial.pie[farm] = pie;
            tried.lead(told, trial, caller);
            if (tried.waters(farm)) {
                return pie;
            }
        }
        return NONE;
    }

    /** The set of most FARMS at REST by a CALLER, of like ones the least bits. */
    public int rest(int caller) {
        if (wayOf(caller).steps == NONE) {
            return NONE;
        }
        waterBySets(caller);
        int rest = NONE;
        for (int set = 0; set < 1 << told.farms; set++) {
            boolean more = rest == NONE || Integer.bitCount(set) > Integer.bitCount(rest);
            if (more && isAtRest(set)) {
                rest = set;
            }
        }
        return rest;
    }

    /** Two CALLERS' WAYS: the STEP behind which they PART (what 0), column, row where they MEET (1, 2). */
    public int parts(int one, int other, int what) {
        Way first = wayOf(one);
        Way second = wayOf(other);
        if (one == other || first.steps == NONE || second.steps == NONE) {
            return NONE;
        }
        int parting = first.partingFrom(second);
        if (what == 0 || parting == NONE) {
            return parting;
        }
        return placePart(first.meetingWith(second, parting), what - 1);
    }

    /** The CELL on most CALLERS' WAYS, not the source: column (what 0), row (1), on how many WAYS (2). */
    public int mill(int what) {
        int mill = NONE;
        int most = 0;
        for (int place = 0; place < told.places(); place++) {
            int count = place == told.source ? 0 : waysThrough(place);
            if (count > most) {
                most = count;
                mill = place;
            }
        }
        return what == 2 && mill != NONE ? most : placePart(mill, what);
    }

    // ---- who called

    /** The tape tells what is SEEN, 1 to 16 rows of three bytes: how many rows. */
    public int see() {
        boolean taken = sight.take(tape, told);
        tape.length = 0;
        return taken ? sight.count : refuse(REFUSED_TEXT);
    }

    /** CALLERS by what is SEEN (all, if nothing is), as bits. */
    public int who() {
        return callersLeft();
    }

    /** The STEP that tells most (what 0), how many CALLERS are left at the most behind it (1). */
    public int tells(int what) {
        int left = callersLeft();
        if (left == 0 || what < 0 || what > 1) {
            return NONE;
        }
        int telling = 0;
        int fewest = mostLeftBy(0, left);
        for (int step = 1; step <= STEP_MOST; step++) {
            int most = mostLeftBy(step, left);
            if (most < fewest) {
                fewest = most;
                telling = step;
            }
        }
        return what == 0 ? telling : fewest;
    }

    // ---- acts

    /** A YEAR with a CALLER: how many FARMS were WATERED. */
    public int spring(int caller) {
        if (wayOf(caller).steps == NONE || land.year >= YEAR_MOST) {
            return refuse(REFUSED_YEAR);
        }
        past.remember(land);
        return passYear(caller);
    }

    /** A FARM's pie is so. */
    public boolean bake(int farm, int pie) {
        if (!told.isFarm(farm) || pie < 0 || pie > DEGREE_MOST || land.pie[farm] == pie) {
            refuse(REFUSED_CHANGE);
            return false;
        }
        past.remember(land);
        land.pie[farm] = pie;
        forgetWays();
        return true;
    }

    /** A CELL is dug: how high it is. */
    public int dig(int column, int row) {
        int place = told.placeOf(column, row);
        if (place == NONE || land.stone[place] == 1 || land.height[place] == 0) {
            return refuse(REFUSED_CHANGE);
        }
        past.remember(land);
        land.height[place]--;
        forgetWays();
        return land.height[place];
    }

    /** A stone is laid on a CELL (on 1), or taken away (0). */
    public boolean stone(int column, int row, int on) {
        int place = told.placeOf(column, row);
        if (place == NONE || on < 0 || on > 1 || land.stone[place] == on) {
            refuse(REFUSED_CHANGE);
            return false;
        }
        past.remember(land);
        land.stone[place] = on;
        forgetWays();
        return true;
    }

    /** n YEARS by the seed, one ACT: how many FARMS were WATERED in all. */
    public int chance(int n) {
        if (n < 1 || n > CHANCE_MOST || wayOf(0).steps == NONE || land.year + n > YEAR_MOST) {
            return refuse(REFUSED_YEAR);
        }
        past.remember(land);
        int watered = 0;
        for (int k = 0; k < n; k++) {
            watered += passYear(drawCaller());
        }
        return watered;
    }

    /** The latest ACT is undone (the seed stays). */
    public boolean undo() {
        if (!past.restore(land)) {
            refuse(REFUSED_UNDO);
            return false;
        }
        forgetWays();
        return true;
    }

    /** The seed. */
    public boolean seed(int seed) {
        if (seed < 0) {
            refuse(REFUSED_STATE);
            return false;
        }
        seedNow = seed;
        return true;
    }

    // ---- questions

    /** The tape is a QUESTION: its answer. */
    public long ask() {
        if (told.columns == 0) {
            tape.length = 0;
            return NOTHING;
        }
        int kind = sumReader.readQuestion(question);
        tape.length = 0;
        return tape.fault == 0 ? answerTo(kind) : NOTHING;
    }

    // ---- images, refusals

    /** AN IMAGE is written: how many bytes. */
    public int image() {
        picture.write(told, land);
        return picture.length;
    }

    /** Byte k of the latest image(). */
    public int octet(int k) {
        return k < 0 || k >= picture.length ? NONE : picture.bytes[k];
    }

    /** The tape is AN IMAGE of this PLAIN: all is as it tells, nothing is KEPT or can be undone. */
    public boolean on() {
        boolean taken = Picture.isOf(told, tape);
        if (taken) {
            Picture.show(told, tape, land);
            past.forget();
            forgetWays();
        } else {
            refuse(REFUSED_STATE);
        }
        tape.length = 0;
        return taken;
    }

    /** How many were refused of the calls that the document lists, 0 .. 5. */
    public int status(int what) {
        return what < 0 || what >= REFUSALS ? NONE : refused[what];
    }

    private int refuse(int which) {
        refused[which]++;
        return NONE;
    }

    private void forgetWays() {
        for (int k = 0; k < CALLERS_MOST; k++) {
            ways[k].known = false;
        }
    }

    /** The WAY of a CALLER now, one without STEPS if there is none such; kept until the land is another one. */
    private Way wayOf(int caller) {
        if (!told.isCaller(caller)) {
            return noWay;
        }
        Way way = ways[caller];
        if (!way.known) {
            way.lead(told, land, caller);
        }
        return way;
    }

    private int placePart(int place, int what) {
        if (place == NONE) {
            return NONE;
        }
        return what == 0 ? told.columnOf(place) : what == 1 ? told.rowOf(place) : NONE;
    }

    private void waterBySets(int caller) {
        trial.copy(land);
        for (int set = 0; set < 1 << told.farms; set++) {
            for (int farm = 0; farm < told.farms; farm++) {
                trial.pie[farm] = pieIn(set, farm);
            }
            tried.lead(told, trial, caller);
            wateredBySet[set] = tried.watered;
        }
    }

    private int pieIn(int set, int farm) {
        return (set >> farm & 1) == 1 ? land.pie[farm] : 0;
    }

    private boolean isAtRest(int set) {
        for (int farm = 0; farm < told.farms; farm++) {
            if (welfare(set ^ 1 << farm, farm) > welfare(set, farm)) {
                return false;
            }
        }
        return true;
    }

    private int welfare(int set, int farm) {
        return WATER_WORTH * (wateredBySet[set] >> farm & 1) - pieIn(set, farm);
    }

    private int waysThrough(int place) {
        int count = 0;
        for (int caller = 0; caller < told.callers; caller++) {
            if (wayOf(caller).stepIn[place] != NONE) {
                count++;
            }
        }
        return count;
    }

    private int callersLeft() {
        int left = 0;
        for (int caller = 0; caller < told.callers; caller++) {
            if (sight.fits(wayOf(caller))) {
                left |= 1 << caller;
            }
        }
        return left;
    }

    private int mostLeftBy(int step, int left) {
        int most = 0;
        for (int one = 0; one < told.callers; one++) {
            int alike = 0;
            for (int other = 0; other < told.callers; other++) {
                boolean both = (left >> one & 1) == 1 && (left >> other & 1) == 1;
                if (both && wayOf(one).placeBy(step) == wayOf(other).placeBy(step)) {
                    alike++;
                }
            }
            most = Math.max(most, alike);
        }
        return most;
    }

    private int drawCaller() {
        seedNow = (1103515245L * seedNow + 12345L) & 0x7fffffffL;
        return told.callers == 0 ? NONE : (int) (seedNow / 64 % told.callers);
    }

    /** A YEAR with a CALLER who has a WAY, in a YEAR that may be one more. */
    private int passYear(int caller) {
        Way way = wayOf(caller);
        for (int step = 0; step <= way.steps; step++) {
            int place = way.places[step];
            land.wet[place] = Math.min(land.wet[place] + 1, WET_MOST);
        }
        for (int farm = 0; farm < told.farms; farm++) {
            facts[YEAR_FACT] = land.year;
            facts[PIE_FACT] = land.pie[farm];
            facts[BEEN_FACT] = land.wet[told.farmPlace[farm]];
            facts[WET_FACT] = way.waters(farm) ? 1 : 0;
            land.pie[farm] = Math.max(0, Math.min(told.bakes.worth(facts), DEGREE_MOST));
        }
        int watered = Integer.bitCount(way.watered);
        land.yearsKept = past.keep(land.yearsKept, land.year, caller, watered);
        land.year = Math.min(land.year + 1, YEAR_MOST);
        forgetWays();
        return watered;
    }

    private long answerTo(int kind) {
        long answer = kind == FIRST_QUESTION || kind == LAST_QUESTION ? NONE : 0;
        for (int farm = 0; farm < told.farms; farm++) {
            gatherFacts(farm);
            int worth = question.worth(facts);
            switch (kind) {
                case FIRST_QUESTION: answer = worth == 1 && answer == NONE ? farm : answer; break;
                case LAST_QUESTION: answer = worth == 1 ? farm : answer; break;
                case OFTEN_QUESTION:
                case TOTAL_QUESTION: answer += worth; break;
                case MOST_QUESTION: answer = farm == 0 ? worth : Math.max(answer, worth); break;
                case LEAST_QUESTION: answer = farm == 0 ? worth : Math.min(answer, worth); break;
                default: break;
            }
        }
        return answer;
    }

    private void gatherFacts(int farm) {
        int place = told.farmPlace[farm];
        facts[NUMBER_FACT] = farm;
        facts[COLUMN_FACT] = told.columnOf(place);
        facts[ROW_FACT] = told.rowOf(place);
        facts[DAY_FACT] = told.farmDay[farm];
        facts[PIE_FACT] = land.pie[farm];
        facts[BEEN_FACT] = land.wet[place];
        for (int caller = 0; caller < CALLERS_MOST; caller++) {
            Way way = wayOf(caller);
            facts[WET_BY_FACT + caller] = way.waters(farm) ? 1 : 0;
            facts[STEP_BY_FACT + caller] = way.stepIn[place];
        }
        facts[YEAR_FACT] = land.year;
        facts[HEIGHT_FACT] = land.height[place];
    }

    /** The tape, and a reader of its words, numbers and signs, which reads nothing more behind the first FAULT. */
    private static final class Tape {
        static final int END = 0;
        static final int WORD = 1;
        static final int DIGITS = 2;
        static final int SIGN = 3;
        /** A word or a number that stands at the end of another one without a blank: no text goes on so. */
        static final int GLUED = 4;
        static final int FAILED = 5;
        private static final int LETTER_BITS = 5;

        final int[] bytes = new int[TAPE_MOST];
        int length;
        /** What is read next, from its first byte to the one behind its last. */
        int kind;
        int start;
        int stop;
        int fault;
        int faultAt = NONE;

        void append(int four) {
            for (int shift = 24; shift >= 0 && length < TAPE_MOST; shift -= 8) {
                bytes[length] = four >> shift & 255;
                length++;
            }
        }

        void rewind() {
            fault = 0;
            faultAt = NONE;
            kind = SIGN;
            stop = 0;
            advance();
        }

        void fail(int which, int place) {
            if (fault == 0) {
                fault = which;
                faultAt = place;
                kind = FAILED;
            }
        }

        void advance() {
            boolean mayGlue = kind == WORD || kind == DIGITS;
            int from = stop;
            start = from;
            while (start < length && (bytes[start] == 32 || bytes[start] == 10)) {
                start++;
            }
            kind = start < length ? kindOf(bytes[start]) : END;
            stop = Math.min(start + 1, length);
            if (kind == WORD || kind == DIGITS) {
                while (stop < length && kindOf(bytes[stop]) == kind) {
                    stop++;
                }
                kind = mayGlue && start == from ? GLUED : kind;
            }
        }

        private static int kindOf(int sign) {
            if (sign >= 'a' && sign <= 'z') {
                return WORD;
            }
            return sign >= '0' && sign <= '9' ? DIGITS : SIGN;
        }

        boolean isSign(char sign) {
            return kind == SIGN && bytes[start] == sign;
        }

        void takeSign(char sign) {
            if (isSign(sign)) {
                advance();
            } else {
                fail(NO_SUCH_TEXT, start);
            }
        }

        /** The place of the next word among words with a blank between each two, NONE if it is none of them. */
        int wordIn(String words) {
            if (kind != WORD) {
                return NONE;
            }
            int which = 0;
            int from = 0;
            for (int k = 0; k <= words.length(); k++) {
                if (k == words.length() || words.charAt(k) == ' ') {
                    if (k - from == stop - start && isSpelled(words, from)) {
                        return which;
                    }
                    which++;
                    from = k + 1;
                }
            }
            return NONE;
        }

        private boolean isSpelled(String words, int from) {
            for (int k = start; k < stop; k++) {
                if (bytes[k] != words.charAt(from + k - start)) {
                    return false;
                }
            }
            return true;
        }

        void takeWord(String word) {
            if (wordIn(word) == 0) {
                advance();
            } else {
                fail(NO_SUCH_TEXT, start);
            }
        }

        /** A number from least to most; behind a FAULT the least one, so that it can be used all the same. */
        int takeNumber(int least, int most) {
            if (kind != DIGITS) {
                fail(NO_SUCH_TEXT, start);
                return least;
            }
            if (stop - start > NUMBER_DIGITS) {
                fail(NO_SUCH_TEXT, start + NUMBER_DIGITS);
                return least;
            }
            int number = 0;
            for (int k = start; k < stop; k++) {
                number = 10 * number + bytes[k] - '0';
            }
            if (number < least || number > most) {
                fail(BAD_NUMBER, start);
                return least;
            }
            advance();
            return number;
        }

        /** A NAME, its letters packed into one number, so that like NAMES are like numbers. */
        int takeName() {
            if (kind != WORD || wordIn(OWN_WORDS) != NONE) {
                fail(NO_SUCH_TEXT, start);
                return 0;
            }
            if (stop - start > NAME_LETTERS) {
                fail(NO_SUCH_TEXT, start + NAME_LETTERS);
                return 0;
            }
            int name = 0;
            for (int k = start; k < stop; k++) {
                name |= bytes[k] - 'a' + 1 << LETTER_BITS * (k - start);
            }
            advance();
            return name;
        }

        static int letterOf(int name, int k) {
            return name >> LETTER_BITS * k & 31;
        }
    }

    /** A SUM or a TEST as steps on a stack of numbers; a TEST that holds is worth 1, else 0. */
    private static final class Code {
        // each step stands for at least one byte of the tape, so there is room for all of them
        private final int[] steps = new int[TAPE_MOST];
        private final int[] stack = new int[STACK_MOST];
        private int length;

        void clear() {
            length = 0;
        }

        boolean isEmpty() {
            return length == 0;
        }

        void add(int step) {
            if (length < TAPE_MOST) {
                steps[length] = step;
                length++;
            }
        }

        int worth(int[] facts) {
            int top = 0;
            for (int k = 0; k < length; k++) {
                int step = steps[k];
                if (step < FIRST_OPERATOR) {
                    if (top < STACK_MOST) {
                        stack[top] = step < FIRST_FACT ? step : facts[step - FIRST_FACT];
                        top++;
                    }
                } else if (step < FIRST_OF_TWO) {
                    if (top > 0) {
                        stack[top - 1] = ofOne(step, stack[top - 1], facts);
                    }
                } else if (top > 1) {
                    top--;
                    stack[top - 1] = held(ofTwo(step, stack[top - 1], stack[top]));
                }
            }
            return stack[0];
        }

        private static int ofOne(int step, int a, int[] facts) {
            boolean isCaller = a >= 0 && a < CALLERS_MOST;
            switch (step) {
                case NOT: return 1 - a;
                case WET_BY: return isCaller ? facts[WET_BY_FACT + a] : 0;
                case STEP_BY: return isCaller ? facts[STEP_BY_FACT + a] : NONE;
                default: return a;
            }
        }

        private static long ofTwo(int step, long a, long b) {
            switch (step) {
                case PLUS: return a + b;
                case MINUS: return a - b;
                case TIMES: return a * b;
                case OVER: return b == 0 ? 0 : Math.floorDiv(a, b);
                case LESSER: return Math.min(a, b);
                case GREATER: return Math.max(a, b);
                case BELOW: return a < b ? 1 : 0;
                case ABOVE: return a > b ? 1 : 0;
                case EQUAL: return a == b ? 1 : 0;
                default: return a;
            }
        }

        private static int held(long number) {
            return (int) Math.max(-SUM_MOST, Math.min(number, SUM_MOST));
        }
    }

    /** Reads SUMS and QUESTIONS from the tape into a Code; a depth is how many are open that may be 6 at most. */
    private static final class SumReader {
        private final Tape tape;
        private Code code;
        private int known;

        SumReader(Tape tape, Code code) {
            this.tape = tape;
            this.code = code;
        }

        /** A SUM that may name the facts of these bits. */
        void readSumOf(int factBits, Code into) {
            begin(factBits, into);
            readSum(0);
        }

        /** The whole tape is a QUESTION: of which kind. */
        int readQuestion(Code into) {
            begin(QUESTION_FACTS, into);
            tape.rewind();
            int kind = tape.wordIn(QUESTION_WORDS);
            if (kind == NONE) {
                tape.fail(NO_SUCH_TEXT, tape.start);
                return NONE;
            }
            tape.advance();
            if (kind <= OFTEN_QUESTION) {
                readTest(0);
            } else {
                readSum(0);
            }
            if (tape.kind != Tape.END) {
                tape.fail(NO_SUCH_TEXT, tape.start);
            }
            return kind;
        }

        private void begin(int factBits, Code into) {
            known = factBits;
            code = into;
            code.clear();
        }

        private void readTest(int depth) {
            readBoth(depth);
            for (int k = 0; k < TAPE_MOST && tape.wordIn("or") == 0; k++) {
                tape.advance();
                readBoth(depth);
                code.add(GREATER);
            }
        }

        private void readBoth(int depth) {
            readFact(depth);
            for (int k = 0; k < TAPE_MOST && tape.wordIn("and") == 0; k++) {
                tape.advance();
                readFact(depth);
                code.add(LESSER);
            }
        }

        private void readFact(int depth) {
            if (tape.wordIn("not") == 0) {
                if (opens(depth)) {
                    readFact(depth + 1);
                    code.add(NOT);
                }
            } else if (tape.isSign('[')) {
                if (opens(depth)) {
                    readTest(depth + 1);
                    tape.takeSign(']');
                }
            } else if (tape.wordIn("all") == 0) {
                tape.advance();
                code.add(1);
            } else {
                readComparison(depth);
            }
        }

        private void readComparison(int depth) {
            readSum(depth);
            int step = tape.isSign('<') ? BELOW : tape.isSign('>') ? ABOVE : tape.isSign('=') ? EQUAL : NONE;
            if (step == NONE) {
                tape.fail(NO_SUCH_TEXT, tape.start);
                return;
            }
            tape.advance();
            readSum(depth);
            code.add(step);
        }

        private void readSum(int depth) {
            readProduct(depth);
            for (int k = 0; k < TAPE_MOST && (tape.isSign('+') || tape.isSign('-')); k++) {
                int step = tape.isSign('+') ? PLUS : MINUS;
                tape.advance();
                readProduct(depth);
                code.add(step);
            }
        }

        private void readProduct(int depth) {
            readPart(depth);
            for (int k = 0; k < TAPE_MOST && (tape.isSign('*') || tape.isSign('/')); k++) {
                int step = tape.isSign('*') ? TIMES : OVER;
                tape.advance();
                readPart(depth);
                code.add(step);
            }
        }

        private void readPart(int depth) {
            if (tape.kind == Tape.DIGITS) {
                code.add(tape.takeNumber(0, NUMBER_MOST));
            } else if (tape.isSign('(')) {
                if (opens(depth)) {
                    readSum(depth + 1);
                    tape.takeSign(')');
                }
            } else if (tape.wordIn("min max") != NONE) {
                readPair(depth);
            } else if (known == QUESTION_FACTS && tape.wordIn("wet step") != NONE) {
                readOfCaller(depth);
            } else {
                readNamedFact();
            }
        }

        private void readPair(int depth) {
            int step = tape.wordIn("min") == 0 ? LESSER : GREATER;
            tape.advance();
            if (!tape.isSign('(')) {
                tape.fail(NO_SUCH_TEXT, tape.start);
            } else if (opens(depth)) {
                readSum(depth + 1);
                tape.takeSign(',');
                readSum(depth + 1);
                tape.takeSign(')');
                code.add(step);
            }
        }

        private void readOfCaller(int depth) {
            int step = tape.wordIn("wet") == 0 ? WET_BY : STEP_BY;
            if (opens(depth)) {
                readPart(depth + 1);
                code.add(step);
            }
        }

        private void readNamedFact() {
            int fact = tape.wordIn(FACT_WORDS);
            if (fact == NONE || (known >> fact & 1) == 0) {
                tape.fail(NO_SUCH_TEXT, tape.start);
                return;
            }
            tape.advance();
            code.add(FIRST_FACT + fact);
        }

        private boolean opens(int depth) {
            if (depth >= OPEN_MOST) {
                tape.fail(TOO_DEEP, tape.start);
                return false;
            }
            tape.advance();
            return true;
        }
    }

    /** What a text tells; CELLS are numbered row by row. Without columns it tells nothing. */
    private static final class Plain {
        int columns;
        int rows;
        int source;
        int farms;
        int callers;
        final int[] height = new int[CELLS_MOST];
        final int[] stone = new int[CELLS_MOST];
        final int[] farmIn = new int[CELLS_MOST];
        final int[] farmName = new int[FARMS_MOST];
        final int[] farmPlace = new int[FARMS_MOST];
        final int[] farmDay = new int[FARMS_MOST];
        final int[] farmPie = new int[FARMS_MOST];
        final int[] callerName = new int[CALLERS_MOST];
        final int[] bold = new int[CALLERS_MOST];
        final int[] kind = new int[CALLERS_MOST];
        final Code goes = new Code();
        final Code bakes = new Code();

        void clear() {
            columns = 0;
            rows = 0;
            source = 0;
            farms = 0;
            callers = 0;
            Arrays.fill(height, 0);
            Arrays.fill(stone, 0);
            Arrays.fill(farmIn, NONE);
            goes.clear();
            bakes.clear();
        }

        int places() {
            return columns * rows;
        }

        int placeOf(int column, int row) {
            boolean isThere = column >= 0 && column < columns && row >= 0 && row < rows;
            return isThere ? row * columns + column : NONE;
        }

        int columnOf(int place) {
            return columns == 0 ? NONE : place % columns;
        }

        int rowOf(int place) {
            return columns == 0 ? NONE : place / columns;
        }

        int beside(int place, int side) {
            return placeOf(columnOf(place) + ACROSS[side], rowOf(place) + DOWNWARD[side]);
        }

        boolean isFarm(int farm) {
            return farm >= 0 && farm < farms;
        }

        boolean isCaller(int caller) {
            return caller >= 0 && caller < callers;
        }

        boolean isNamed(int name) {
            for (int k = 0; k < farms; k++) {
                if (farmName[k] == name) {
                    return true;
                }
            }
            for (int k = 0; k < callers; k++) {
                if (callerName[k] == name) {
                    return true;
                }
            }
            return false;
        }
    }

    /** Reads a PLAIN from the tape; behind a FAULT nothing is read, and what it fills in then is not used. */
    private static final class PlainReader {
        private final Tape tape;
        private final SumReader sums;
        private Plain plain;
        private int rowStart;

        PlainReader(Tape tape, SumReader sums, Plain plain) {
            this.tape = tape;
            this.sums = sums;
            this.plain = plain;
        }

        /** How many STATEMENTS there are, unless the tape then has a FAULT. */
        int readPlain(Plain into) {
            plain = into;
            plain.clear();
            tape.rewind();
            readSides();
            int count = 1;
            while (count < STATEMENTS_MOST && hasMore()) {
                readStatement();
                count++;
            }
            if (hasMore()) {
                tape.fail(TOO_MANY, tape.start);
            }
            addMissingSums();
            return count;
        }

        private boolean hasMore() {
            return tape.kind != Tape.END && tape.kind != Tape.FAILED;
        }

        private void readSides() {
            tape.takeWord("plain");
            plain.columns = tape.takeNumber(SIDE_LEAST, SIDE_MOST);
            tape.takeWord("by");
            plain.rows = tape.takeNumber(SIDE_LEAST, SIDE_MOST);
            tape.takeSign(';');
        }

        private void readStatement() {
            int statement = tape.wordIn(STATEMENT_WORDS);
            if (isFull(statement)) {
                tape.fail(TOO_MANY, tape.start);
                return;
            }
            if (statement == NONE) {
                tape.fail(NO_SUCH_TEXT, tape.start);
                return;
            }
            tape.advance();
            switch (statement) {
                case HIGH_STATEMENT: readHigh(); break;
                case STONE_STATEMENT: readStone(); break;
                case SOURCE_STATEMENT: plain.source = tape.takeNumber(0, plain.columns - 1); break;
                case FARM_STATEMENT: readFarm(); break;
                case CALLER_STATEMENT: readCaller(); break;
                case GOES_STATEMENT: sums.readSumOf(GOES_FACTS, plain.goes); break;
                case BAKES_STATEMENT: sums.readSumOf(BAKES_FACTS, plain.bakes); break;
                default: break;
            }
            tape.takeSign(';');
        }

        private boolean isFull(int statement) {
            switch (statement) {
                case FARM_STATEMENT: return plain.farms == FARMS_MOST;
                case CALLER_STATEMENT: return plain.callers == CALLERS_MOST;
                case GOES_STATEMENT: return !plain.goes.isEmpty();
                case BAKES_STATEMENT: return !plain.bakes.isEmpty();
                default: return false;
            }
        }

        private void readHigh() {
            int place = readPlace();
            plain.height[place] = tape.takeNumber(0, DEGREE_MOST);
        }

        private void readStone() {
            int place = readPlace();
            if (plain.stone[place] == 1) {
                tape.fail(BAD_NUMBER, rowStart);
            }
            plain.stone[place] = 1;
        }

        private void readFarm() {
            int farm = plain.farms;
            plain.farmName[farm] = readNewName();
            tape.takeWord("at");
            int place = readPlace();
            if (plain.farmIn[place] != NONE) {
                tape.fail(BAD_NUMBER, rowStart);
            }
            tape.takeWord("day");
            plain.farmDay[farm] = tape.takeNumber(1, DAY_MOST);
            tape.takeWord("pie");
            plain.farmPie[farm] = tape.takeNumber(0, DEGREE_MOST);
            plain.farmPlace[farm] = place;
            plain.farmIn[place] = farm;
            plain.farms++;
        }

        private void readCaller() {
            int caller = plain.callers;
            plain.callerName[caller] = readNewName();
            tape.takeWord("bold");
            plain.bold[caller] = tape.takeNumber(0, DEGREE_MOST);
            tape.takeWord("kind");
            plain.kind[caller] = tape.takeNumber(0, DEGREE_MOST);
            plain.callers++;
        }

        private int readNewName() {
            int nameStart = tape.start;
            int name = tape.takeName();
            if (plain.isNamed(name)) {
                tape.fail(NAME_TAKEN, nameStart);
            }
            return name;
        }

        private int readPlace() {
            int column = tape.takeNumber(0, plain.columns - 1);
            rowStart = tape.start;
            int row = tape.takeNumber(0, plain.rows - 1);
            return row * plain.columns + column;
        }

        private void addMissingSums() {
            if (plain.goes.isEmpty()) {
                plain.goes.add(0);
                plain.goes.add(FIRST_FACT + DOWN_FACT);
                plain.goes.add(MINUS);
            }
            if (plain.bakes.isEmpty()) {
                plain.bakes.add(FIRST_FACT + PIE_FACT);
            }
        }
    }

    /** What years and ACTS change. */
    private static final class Land {
        int year;
        int yearsKept;
        final int[] height = new int[CELLS_MOST];
        final int[] stone = new int[CELLS_MOST];
        final int[] wet = new int[CELLS_MOST];
        final int[] pie = new int[FARMS_MOST];

        void begin(Plain plain) {
            year = 0;
            yearsKept = 0;
            System.arraycopy(plain.height, 0, height, 0, CELLS_MOST);
            System.arraycopy(plain.stone, 0, stone, 0, CELLS_MOST);
            Arrays.fill(wet, 0);
            Arrays.fill(pie, 0);
            System.arraycopy(plain.farmPie, 0, pie, 0, plain.farms);
        }

        void copy(Land other) {
            year = other.year;
            yearsKept = other.yearsKept;
            System.arraycopy(other.height, 0, height, 0, CELLS_MOST);
            System.arraycopy(other.stone, 0, stone, 0, CELLS_MOST);
            System.arraycopy(other.wet, 0, wet, 0, CELLS_MOST);
            System.arraycopy(other.pie, 0, pie, 0, FARMS_MOST);
        }

        /** Whether the water may go from a CELL to one beside it. */
        boolean flows(int from, int to) {
            return stone[to] == 0 && height[to] <= height[from];
        }

        int stones() {
            int count = 0;
            for (int laid : stone) {
                count += laid;
            }
            return count;
        }

        int pies() {
            int total = 0;
            for (int one : pie) {
                total += one;
            }
            return total;
        }
    }

    /** A WAY; without one its steps are NONE. */
    private static final class Way {
        final int[] places = new int[CELLS_MOST];
        /** By which STEP it comes to each CELL, NONE if it does not. */
        final int[] stepIn = new int[CELLS_MOST];
        int steps = NONE;
        boolean sea;
        int watered;
        boolean known;
        private final int[] facts = new int[FACTS];

        Way() {
            Arrays.fill(stepIn, NONE);
        }

        void lead(Plain plain, Land land, int caller) {
            steps = NONE;
            sea = false;
            watered = 0;
            known = true;
            Arrays.fill(stepIn, NONE);
            facts[YEAR_FACT] = land.year;
            facts[BOLD_FACT] = plain.bold[caller];
            facts[KIND_FACT] = plain.kind[caller];
            int place = land.stone[plain.source] == 1 ? NONE : plain.source;
            for (int step = 0; step < CELLS_MOST && place != NONE; step++) {
                enter(plain, place, step);
                place = sea ? NONE : nextPlace(plain, land, place);
            }
        }

        private void enter(Plain plain, int place, int step) {
            steps = step;
            places[step] = place;
            stepIn[place] = step;
            sea = plain.rowOf(place) == plain.rows - 1;
            int farm = plain.farmIn[place];
            if (farm != NONE && step <= plain.farmDay[farm]) {
                watered |= 1 << farm;
            }
        }

        private int nextPlace(Plain plain, Land land, int place) {
            facts[STEP_FACT] = steps + 1;
            int next = NONE;
            int most = 0;
            for (int side = 0; side < SIDES; side++) {
                int beside = plain.beside(place, side);
                if (beside != NONE && stepIn[beside] == NONE && land.flows(place, beside)) {
                    int farm = plain.farmIn[beside];
                    facts[PIE_FACT] = farm == NONE ? 0 : land.pie[farm];
                    facts[BEEN_FACT] = land.wet[beside];
                    facts[HEIGHT_FACT] = land.height[beside];
                    facts[DOWN_FACT] = plain.rows - 1 - plain.rowOf(beside);
                    int worth = plain.goes.worth(facts);
                    if (next == NONE || worth > most) {
                        next = beside;
                        most = worth;
                    }
                }
            }
            return next;
        }

        int placeBy(int step) {
            return step >= 0 && step <= steps ? places[step] : NONE;
        }

        boolean waters(int farm) {
            return (watered >> farm & 1) == 1;
        }

        boolean isBetterThan(Way other) {
            int more = Integer.bitCount(watered) - Integer.bitCount(other.watered);
            return more > 0 || more == 0 && steps < other.steps;
        }

        /** The last STEP up to which both are alike, NONE if they are so to the end of both. */
        int partingFrom(Way other) {
            int shorter = Math.min(steps, other.steps);
            for (int step = 0; step <= shorter; step++) {
                if (places[step] != other.places[step]) {
                    return step - 1;
                }
            }
            return steps == other.steps ? NONE : shorter;
        }

        int meetingWith(Way other, int parting) {
            for (int step = parting + 1; step <= steps; step++) {
                if (other.stepIn[places[step]] > parting) {
                    return places[step];
                }
            }
            return NONE;
        }
    }

    /** LED ways: how few STEPS bring one to a CELL with a set of FARMS watered on the way. */
    private static final class Led {
        /** For each CELL and set (one number for both), NONE where no LED way comes to. */
        private final int[] steps = new int[CELLS_MOST * SETS_MOST];
        private final int[] reached = new int[CELLS_MOST * SETS_MOST];
        private int reachedCount;
        private final int[] fewest = new int[SETS_MOST];

        void search(Plain plain, Land land) {
            Arrays.fill(steps, NONE);
            Arrays.fill(fewest, NONE);
            reachedCount = 0;
            if (plain.columns == 0 || land.stone[plain.source] == 1) {
                return;
            }
            reach(plain, plain.source, 0, 0);
            for (int k = 0; k < reached.length && k < reachedCount; k++) {
                goOn(plain, land, reached[k]);
            }
        }

        private void goOn(Plain plain, Land land, int state) {
            int place = state / SETS_MOST;
            int step = steps[state] + 1;
            if (step > STEP_MOST) {
                return;
            }
            for (int side = 0; side < SIDES; side++) {
                int beside = plain.beside(place, side);
                if (beside != NONE && land.flows(place, beside)) {
                    reach(plain, beside, state % SETS_MOST, step);
                }
            }
        }

        /** Whoever is in a CELL with the same set sooner can do all that one can do later, so the first time is enough. */
        private void reach(Plain plain, int place, int setBefore, int step) {
            int farm = plain.farmIn[place];
            int set = farm != NONE && step <= plain.farmDay[farm] ? setBefore | 1 << farm : setBefore;
            int state = place * SETS_MOST + set;
            if (steps[state] != NONE || reachedCount >= reached.length) {
                return;
            }
            steps[state] = step;
            reached[reachedCount] = state;
            reachedCount++;
            if (fewest[set] == NONE) {
                fewest[set] = step;
            }
        }

        int fewestFor(int farms) {
            int least = NONE;
            for (int set = 0; set < SETS_MOST; set++) {
                boolean enough = fewest[set] != NONE && (set & farms) == farms;
                if (enough && (least == NONE || fewest[set] < least)) {
                    least = fewest[set];
                }
            }
            return least;
        }
    }

    /** The lands ahead of the latest ACTS, and all YEARS that are KEPT; a Land knows how many of those are its own. */
    private static final class Past {
        int count;
        private int oldest;
        private final Land[] lands = new Land[UNDO_MOST];
        // an undone ACT may bring back any of them to be told, and there are never more than YEARS
        private final int[] year = new int[YEAR_MOST];
        private final int[] caller = new int[YEAR_MOST];
        private final int[] watered = new int[YEAR_MOST];

        Past() {
            for (int k = 0; k < UNDO_MOST; k++) {
                lands[k] = new Land();
            }
        }

        void forget() {
            count = 0;
        }

        void remember(Land land) {
            if (count == UNDO_MOST) {
                oldest = (oldest + 1) % UNDO_MOST;
                count--;
            }
            lands[(oldest + count) % UNDO_MOST].copy(land);
            count++;
        }

        boolean restore(Land land) {
            if (count == 0) {
                return false;
            }
            count--;
            land.copy(lands[(oldest + count) % UNDO_MOST]);
            return true;
        }

        /** One more behind so many: how many there are then. */
        int keep(int before, int yearNumber, int callerNumber, int wateredCount) {
            if (before < 0 || before >= YEAR_MOST) {
                return before;
            }
            year[before] = yearNumber;
            caller[before] = callerNumber;
            watered[before] = wateredCount;
            return before + 1;
        }

        int tell(int k, int what) {
            if (k < 0 || k >= YEAR_MOST) {
                return NONE;
            }
            switch (what) {
                case 0: return year[k];
                case 1: return caller[k];
                case 2: return watered[k];
                default: return NONE;
            }
        }
    }

    /** What is SEEN. */
    private static final class Sight {
        private static final int ROW_BYTES = 3;

        int count;
        private final int[] step = new int[SEEN_MOST];
        private final int[] place = new int[SEEN_MOST];

        boolean take(Tape tape, Plain plain) {
            if (!isSight(tape, plain)) {
                return false;
            }
            count = tape.length / ROW_BYTES;
            for (int k = 0; k < count; k++) {
                step[k] = tape.bytes[ROW_BYTES * k];
                place[k] = plain.placeOf(tape.bytes[ROW_BYTES * k + 1], tape.bytes[ROW_BYTES * k + 2]);
            }
            return true;
        }

        private static boolean isSight(Tape tape, Plain plain) {
            int rows = tape.length / ROW_BYTES;
            if (rows < 1 || rows > SEEN_MOST || tape.length % ROW_BYTES != 0) {
                return false;
            }
            for (int k = 0; k < tape.length; k += ROW_BYTES) {
                boolean isCell = plain.placeOf(tape.bytes[k + 1], tape.bytes[k + 2]) != NONE;
                if (tape.bytes[k] > STEP_MOST || !isCell) {
                    return false;
                }
            }
            return true;
        }

        boolean fits(Way way) {
            for (int k = 0; k < count; k++) {
                if (way.placeBy(step[k]) != place[k]) {
                    return false;
                }
            }
            return true;
        }
    }

    /** AN IMAGE, written, and read from the tape. */
    private static final class Picture {
        private static final int YEAR_BYTES = 2;
        private static final int CELL_BYTES = 3;

        final int[] bytes = new int[IMAGE_MOST];
        int length;

        void write(Plain plain, Land land) {
            bytes[0] = land.year / 256;
            bytes[1] = land.year % 256;
            length = YEAR_BYTES;
            for (int place = 0; place < plain.places(); place++) {
                bytes[length] = land.height[place];
                bytes[length + 1] = land.stone[place];
                bytes[length + 2] = land.wet[place];
                length += CELL_BYTES;
            }
            for (int farm = 0; farm < plain.farms; farm++) {
                bytes[length] = land.pie[farm];
                length++;
            }
            bytes[length] = checkOf(bytes, length);
            length++;
        }

        private static int checkOf(int[] ahead, int count) {
            int check = IMAGE_SEED;
            for (int k = 0; k < count; k++) {
                check = (3 * check + ahead[k]) % IMAGE_MODULUS;
            }
            return check;
        }

        static boolean isOf(Plain plain, Tape tape) {
            int pies = YEAR_BYTES + CELL_BYTES * plain.places();
            int check = pies + plain.farms;
            if (plain.columns == 0 || tape.length != check + 1) {
                return false;
            }
            boolean fits = yearOf(tape) <= YEAR_MOST && tape.bytes[check] == checkOf(tape.bytes, check);
            for (int k = YEAR_BYTES; k < pies; k += CELL_BYTES) {
                fits &= tape.bytes[k] <= DEGREE_MOST && tape.bytes[k + 1] <= 1 && tape.bytes[k + 2] <= WET_MOST;
            }
            for (int k = pies; k < check; k++) {
                fits &= tape.bytes[k] <= DEGREE_MOST;
            }
            return fits;
        }

        private static int yearOf(Tape tape) {
            return 256 * tape.bytes[0] + tape.bytes[1];
        }

        /** The land is as a tape tells that is AN IMAGE of this plain. */
        static void show(Plain plain, Tape tape, Land land) {
            land.year = yearOf(tape);
            land.yearsKept = 0;
            for (int place = 0; place < plain.places(); place++) {
                int from = YEAR_BYTES + CELL_BYTES * place;
                land.height[place] = tape.bytes[from];
                land.stone[place] = tape.bytes[from + 1];
                land.wet[place] = tape.bytes[from + 2];
            }
            int pies = YEAR_BYTES + CELL_BYTES * plain.places();
            for (int farm = 0; farm < plain.farms; farm++) {
                land.pie[farm] = tape.bytes[pies + farm];
            }
        }
    }
}

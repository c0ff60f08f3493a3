import java.util.Random;

/** All promises: runs of calls by a seed, each answer held against the Model's. */
public final class ModelTest {
    private static final int RUNS = 300;
    private static final int CALLS = 160;

    private final Random random;
    private final TextMaker texts;
    private final CalledRiver river = new CalledRiver();
    private final Model model = new Model();
    private final Check check;
    private final int run;

    private ModelTest(int run, Check check) {
        this.run = run;
        this.check = check;
        random = new Random(run);
        texts = new TextMaker(random);
    }

    public static void main(String[] args) {
        int runs = args.length > 0 ? Integer.parseInt(args[0]) : RUNS;
        Check check = new Check();
        for (int run = 0; run < runs; run++) {
            new ModelTest(run, check).go();
        }
        check.finish();
    }

    private void go() {
        if (run % 10 != 0) {
            lay(texts.plain());
            due("plain()", river.plain(), model.plain());
        }
        for (int k = 0; k < CALLS; k++) {
            act();
            if (k % 20 == 0) {
                look();
            }
        }
        look();
    }

    private void due(String what, long got, long want) {
        check.due("run " + run + ": " + what, got, want);
    }

    private void due(String what, boolean got, boolean want) {
        check.due("run " + run + ": " + what, got, want);
    }

    private int near(int most) {
        return random.nextInt(most + 3) - 1;
    }

    private void lay(String text) {
        due("end 0", river.end(0), model.end(0));
        for (int from = 0; from < text.length(); from += 20) {
            int[] five = new int[5];
            for (int k = 0; k < 20; k++) {
                five[k / 4] = five[k / 4] << 8 | (from + k < text.length() ? text.charAt(from + k) : random.nextInt(256));
            }
            due("feed", river.feed(five[0], five[1], five[2], five[3], five[4]), model.feed(five));
        }
        int wrong = near(1700);
        if (wrong > text.length()) {
            due("end " + wrong, river.end(wrong), model.end(wrong));
        }
        due("end " + text.length(), river.end(text.length()), model.end(text.length()));
    }

    private void act() {
        int a = near(5);
        int b = near(5);
        switch (random.nextInt(14)) {
            case 0, 1, 2 -> due("spring " + a, river.spring(a), model.spring(a));
            case 3 -> due("bake " + a, river.bake(a, b * 2), model.bake(a, b * 2));
            case 4 -> due("dig " + a + " " + b, river.dig(a, b), model.dig(a, b));
            case 5 -> stone(a, b, near(1));
            case 6 -> chance(random.nextInt(6) == 0 ? near(101) : near(5));
            case 7 -> due("undo", river.undo(), model.undo());
            case 8 -> due("seed", river.seed(a * 1000003), model.seed(a * 1000003));
            case 9, 10 -> ask();
            case 11 -> see();
            case 12 -> image();
            default -> retell();
        }
    }

    private void stone(int column, int row, int on) {
        if (row > 0 || random.nextInt(4) == 0) {
            due("stone", river.stone(column, row, on), model.stone(column, row, on));
        }
    }

    private void chance(int n) {
        due("chance " + n, river.chance(n), model.chance(n));
    }

    private void ask() {
        String question = texts.question();
        lay(question);
        due("ask " + question, river.ask(), model.ask());
        due("fault(0) of " + question, river.fault(0), model.fault(0));
        due("fault(1) of " + question, river.fault(1), model.fault(1));
    }

    private void see() {
        StringBuilder rows = new StringBuilder();
        int caller = near(4);
        for (int k = random.nextInt(3); k >= 0; k--) {
            int step = random.nextInt(8);
            boolean there = model.way(caller, step, 0) >= 0 && random.nextInt(4) > 0;
            rows.append((char) step);
            rows.append((char) (there ? model.way(caller, step, 0) : random.nextInt(6)));
            rows.append((char) (there ? model.way(caller, step, 1) : random.nextInt(6)));
        }
        if (random.nextInt(5) == 0) {
            rows.setLength(random.nextInt(rows.length() + 1));
        }
        lay(rows.toString());
        due("see", river.see(), model.see());
    }

    private void image() {
        due("image", river.image(), model.image());
        StringBuilder bytes = new StringBuilder();
        int count = model.image.size();
        for (int k = -1; k <= count; k++) {
            due("octet " + k, river.octet(k), model.octet(k));
        }
        for (int one : model.image) {
            bytes.append((char) one);
        }
        if (random.nextInt(3) == 0) {
            int at = random.nextInt(count);
            bytes.setCharAt(at, (char) (random.nextInt(5) == 0 ? random.nextInt(256) : random.nextInt(11)));
            int seal = 173;
            for (int k = 0; k + 1 < count; k++) {
                seal = (3 * seal + bytes.charAt(k)) % 251;
            }
            bytes.setCharAt(count - 1, (char) seal);
        }
        if (random.nextInt(3) == 0) {
            lay(bytes.toString());
            due("on", river.on(), model.on());
        }
    }

    private void retell() {
        if (random.nextInt(3) == 0) {
            String text = texts.plain();
            lay(text);
            due("plain " + text, river.plain(), model.plain());
            due("fault(0) of " + text, river.fault(0), model.fault(0));
            due("fault(1) of " + text, river.fault(1), model.fault(1));
        }
    }

    private void look() {
        for (int what = -1; what <= 11; what++) {
            due("has " + what, river.has(what), model.has(what));
            due("status " + what, river.status(what), model.status(what));
            due("mill " + what, river.mill(what), model.mill(what));
            due("tells " + what, river.tells(what), model.tells(what));
        }
        due("best", river.best(), model.best());
        due("dry", river.dry(), model.dry());
        due("who", river.who(), model.who());
        int farms = near(63);
        due("least " + farms, river.least(farms), model.least(farms));
        for (int k = -1; k <= 6; k++) {
            due("rest " + k, river.rest(k), model.rest(k));
            lookAt(k);
        }
        for (int k = -1; k <= 41; k++) {
            for (int what = -1; what <= 3; what++) {
                due("kept " + k, river.kept(k, what), model.kept(k, what));
            }
        }
    }

    private void lookAt(int k) {
        for (int what = -1; what <= 4; what++) {
            for (int row = -1; row <= 6; row++) {
                due("cell", river.cell(k, row, what), model.cell(k, row, what));
                due("letter", river.letter(what, k, row), model.letter(what, k, row));
                due("parts " + k + " " + row, river.parts(k, row, what), model.parts(k, row, what));
                due("bid " + k + " " + row, river.bid(k, row), model.bid(k, row));
            }
            for (int step = -1; step <= 37; step++) {
                due("way " + k + " " + step, river.way(k, step, what), model.way(k, step, what));
            }
            due("farm " + k, river.farm(k, what), model.farm(k, what));
            due("caller " + k, river.caller(k, what), model.caller(k, what));
            due("leads " + k, river.leads(k, what), model.leads(k, what));
        }
    }
}

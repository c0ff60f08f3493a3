/** Promise 1: a new object has no plain and nobody; the constants. */
public final class NewObjectTest {
    public static void main(String[] args) {
        Check check = new Check();
        check.due("NONE", CalledRiver.NONE, -1);
        check.due("NOTHING", CalledRiver.NOTHING, -1000000000000000L);
        counts(check);
        nobody(check);
        acts(check);
        check.finish();
    }

    private static void counts(Check check) {
        CalledRiver river = new CalledRiver();
        for (int what = 0; what <= 10; what++) {
            check.due("has(" + what + ")", river.has(what), what == 6 ? -1 : 0);
        }
        for (int what = 0; what <= 5; what++) {
            check.due("status(" + what + ")", river.status(what), 0);
        }
        check.due("fault(0)", river.fault(0), 0);
        check.due("fault(1)", river.fault(1), -1);
    }

    private static void nobody(Check check) {
        CalledRiver river = new CalledRiver();
        check.due("letter", river.letter(1, 0, 0), -1);
        check.due("cell", river.cell(0, 0, 3), -1);
        check.due("farm", river.farm(0, 3), -1);
        check.due("caller", river.caller(0, 1), -1);
        check.due("kept", river.kept(0, 0), -1);
        check.due("way", river.way(0, 0, 0), -1);
        check.due("leads", river.leads(0, 1), -1);
        check.due("best", river.best(), -1);
        check.due("least", river.least(0), -1);
        check.due("dry", river.dry(), -1);
        check.due("bid", river.bid(0, 0), -1);
        check.due("rest", river.rest(0), -1);
        check.due("parts", river.parts(0, 1, 0), -1);
        check.due("mill", river.mill(2), -1);
        check.due("who", river.who(), 0);
        check.due("tells", river.tells(1), -1);
        check.due("octet", river.octet(0), -1);
        check.due("image", river.image(), 3);
        check.due("octet", river.octet(2), 51);
    }

    private static void acts(Check check) {
        CalledRiver river = new CalledRiver();
        check.due("spring", river.spring(0), -1);
        check.due("chance", river.chance(1), -1);
        check.due("bake", river.bake(0, 1), false);
        check.due("dig", river.dig(0, 0), -1);
        check.due("stone", river.stone(0, 0, 1), false);
        check.due("undo", river.undo(), false);
        check.due("see", river.see(), -1);
        check.due("on", river.on(), false);
        check.due("ask", river.ask(), CalledRiver.NOTHING);
        check.due("has(10)", river.has(10), 0);
    }
}

/** Promise 1: a new object has no table and no guests; what each call says then. */
public final class NewObjectTest {
    public static void main(String[] args) {
        constants();
        nothingIsThere();
        nothingIsDone();
        Check.close("NewObjectTest");
    }

    private static void constants() {
        Check.due("NONE", TalkCoopers.NONE, -1);
        Check.due("NOTHING", TalkCoopers.NOTHING, -1000000000000000L);
    }

    private static void nothingIsThere() {
        TalkCoopers x = new TalkCoopers();
        for (int what = 0; what < 8; what++) {
            Check.due("has(" + what + ")", x.has(what), 0);
        }
        Check.due("fault(0)", x.fault(0), 0);
        Check.due("fault(1)", x.fault(1), -1);
        Check.due("fault(2)", x.fault(2), -1);
        Check.due("letter", x.letter(0, 0), -1);
        Check.due("guest", x.guest(0, 0), -1);
        Check.due("seat", x.seat(0, 0), -1);
        Check.due("kept", x.kept(0, 0), -1);
        Check.due("later", x.later(0, 0), -1);
        Check.due("bursts", x.bursts(0), -1);
        Check.due("burst(0)", x.burst(0), -1);
        Check.due("hoops", x.hoops(1), -1);
        for (int what = 0; what < 3; what++) {
            Check.due("change", x.change(1, what), -1);
            Check.due("tells", x.tells(0, what), -1);
        }
        Check.due("seating", x.seating(1, -1), -1);
        Check.due("tun", x.tun(1), -1);
        Check.due("row", x.row(), 0);
        Check.due("wets", x.wets(0), -1);
        Check.due("octet", x.octet(0), -1);
        for (int what = 0; what < 6; what++) {
            Check.due("status", x.status(what), 0);
        }
    }

    private static void nothingIsDone() {
        TalkCoopers x = new TalkCoopers();
        Check.due("drive", x.drive(0, 1), false);
        Check.due("sit", x.sit(0, 0), false);
        Check.due("say", x.say(0, 1), false);
        Check.due("minutes", x.minutes(1), -1);
        Check.due("chance", x.chance(1), -1);
        Check.due("undo", x.undo(), false);
        Check.due("hear", Check.hear(x, 0, 0, 255), -1);
        Check.due("on", Check.on(x, Check.withCheck(0, 0)), false);
        Check.due("ask", Check.ask(x, "total 1"), TalkCoopers.NOTHING);
        Check.due("image", x.image(), 3);
        Check.due("octet(0)", x.octet(0), 0);
        Check.due("octet(1)", x.octet(1), 0);
        Check.due("octet(2)", x.octet(2), 250);
        int[] refused = {0, 1, 3, 2, 1, 1};
        for (int what = 0; what < 6; what++) {
            Check.due("status(" + what + ")", x.status(what), refused[what]);
        }
    }
}

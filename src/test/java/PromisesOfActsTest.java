/** Promises 22 to 33, sentence by sentence: their edges. */
public final class PromisesOfActsTest {
    private static final String TWO = "table 5;guest ann at 0 wet 9 hot 2;guest bo at 1 wet 4 hot 1;hoop 3;";
    private static final int[] FAR_OUT = {-1, Integer.MIN_VALUE, Integer.MAX_VALUE};

    public static void main(String[] args) {
        drive();
        driveRefused();
        sit();
        sitRefused();
        say();
        sayRefused();
        minutes();
        minutesRefused();
        minutesBeyond999();
        chance();
        chanceRefused();
        chanceBeyond999();
        undoEachAct();
        undoLeavesTheSeed();
        undoOfWhatIsKept();
        undoRefused();
        undoneAndDoneAnew();
        seed();
        seedRefused();
        seedAtFirst();
        askNone();
        askFault();
        askWithoutTable();
        imageHowMany();
        octet();
        octetNone();
        on();
        onGoes();
        onRefused();
        onWithoutTable();
        status();
        statusOthers();
        statusOfWhatIsNotRefused();
        Check.close("PromisesOfActsTest");
    }

    /** An object that has gone some way, so that a refused call would be seen to change something. */
    private static TalkCoopers gone() {
        TalkCoopers x = Check.with(TWO);
        x.minutes(6);
        x.drive(2, 1);
        x.sit(0, 4);
        x.say(1, 17);
        Check.hear(x, 0, 0, 255);
        x.image();
        return x;
    }

    // ---- promises 22 to 24.

    private static void drive() {
        Check.sentence("A HOOP is driven on a SEAT (on 1), or taken from it (0): true");
        for (int seats = 3; seats <= 9; seats++) {
            TalkCoopers x = Check.with("table " + seats + ";");
            for (int s = 0; s < seats; s++) {
                Check.due("drive(" + s + ", 1)", x.drive(s, 1), true);
                Check.due("seat", x.seat(s, 1), 1);
                Check.due("has(2)", x.has(2), s + 1);
            }
            for (int s = 0; s < seats; s++) {
                Check.due("drive(" + s + ", 0)", x.drive(s, 0), true);
                Check.due("seat", x.seat(s, 1), 0);
                Check.due("has(2)", x.has(2), seats - s - 1);
            }
            Check.due("status(2)", x.status(2), 0);
        }
    }

    private static void dueRefused(String call, TalkCoopers x, boolean answer, int kind, int times) {
        Check.due(call, answer, false);
        Check.due("status(" + kind + ") behind " + call, x.status(kind), times);
    }

    private static void driveRefused() {
        Check.sentence("false, refused (2), when it is so already, there is none such, or for others.");
        TalkCoopers x = gone();
        String before = Check.seen(x);
        dueRefused("drive(2, 1)", x, x.drive(2, 1), 2, 1);
        dueRefused("drive(0, 0)", x, x.drive(0, 0), 2, 2);
        dueRefused("drive(5, 1)", x, x.drive(5, 1), 2, 3);
        dueRefused("drive(5, 0)", x, x.drive(5, 0), 2, 4);
        dueRefused("drive(0, 2)", x, x.drive(0, 2), 2, 5);
        dueRefused("drive(2, 2)", x, x.drive(2, 2), 2, 6);
        int times = 6;
        for (int k : FAR_OUT) {
            dueRefused("drive(0, " + k + ")", x, x.drive(0, k), 2, ++times);
            dueRefused("drive(2, " + k + ")", x, x.drive(2, k), 2, ++times);
            dueRefused("drive(" + k + ", 1)", x, x.drive(k, 1), 2, ++times);
            dueRefused("drive(" + k + ", 0)", x, x.drive(k, 0), 2, ++times);
        }
        Check.dueStays("drive()", x, before);
        x = new TalkCoopers();
        dueRefused("without a table", x, x.drive(0, 1), 2, 1);
        x = Check.with("table 9;");
        dueRefused("drive(9, 1)", x, x.drive(9, 1), 2, 1);
        dueRefused("drive(32, 1)", x, x.drive(32, 1), 2, 2);
    }

    private static void sit() {
        Check.sentence("A GUEST goes to a SEAT: true");
        TalkCoopers x = Check.with("table 9;guest a at 4 wet 0 hot 0;");
        for (int s : new int[] {0, 8, 7, 1, 0}) {
            int from = x.guest(0, 0);
            Check.due("sit(0, " + s + ")", x.sit(0, s), true);
            Check.due("his SEAT", x.guest(0, 0), s);
            Check.due("who is in it", x.seat(s, 0), 0);
            Check.due("who is in the one that he went from", x.seat(from, 0), -1);
        }
        Check.due("ACTS", x.has(7), 5);
        x = Check.with("table 3;guest a at 1 wet 0 hot 0;guest b at 2 wet 0 hot 0;");
        x.say(0, 33);
        x.sit(0, 0);
        Check.due("his SWELL goes with him", x.guest(0, 3), 33);
        Check.due("the load on SEAT 1", x.seat(1, 2), 33);
        Check.due("the SEAT from which one went is free", x.sit(1, 1), true);
    }

    private static void sitRefused() {
        Check.sentence("true; false, refused (2), when one is in it, or there are none such.");
        TalkCoopers x = gone();
        String before = Check.seen(x);
        dueRefused("another is in it", x, x.sit(0, 1), 2, 1);
        dueRefused("he himself is in it", x, x.sit(0, 4), 2, 2);
        dueRefused("no such SEAT", x, x.sit(0, 5), 2, 3);
        dueRefused("no such GUEST", x, x.sit(2, 0), 2, 4);
        dueRefused("neither", x, x.sit(2, 5), 2, 5);
        int times = 5;
        for (int k : FAR_OUT) {
            dueRefused("sit(0, " + k + ")", x, x.sit(0, k), 2, ++times);
            dueRefused("sit(" + k + ", 0)", x, x.sit(k, 0), 2, ++times);
        }
        Check.dueStays("sit()", x, before);
        x = Check.with("table 3;guest a at 0 wet 0 hot 0;guest b at 1 wet 0 hot 0;guest c at 2 wet 0 hot 0;");
        for (int s = 0; s < 3; s++) {
            dueRefused("all are taken", x, x.sit(0, s), 2, s + 1);
        }
        x = new TalkCoopers();
        dueRefused("without a table", x, x.sit(0, 0), 2, 1);
    }

    private static void say() {
        Check.sentence("A GUEST has another SWELL (0 .. 99): true");
        TalkCoopers x = Check.with(TWO);
        for (int swell : new int[] {99, 0, 1, 98, 50}) {
            Check.due("say(1, " + swell + ")", x.say(1, swell), true);
            Check.due("his SWELL", x.guest(1, 3), swell);
            Check.due("the other's", x.guest(0, 3), 0);
        }
        Check.due("ACTS", x.has(7), 5);
    }

    private static void sayRefused() {
        Check.sentence("true; false, refused (2), when it is that, there is none such, or for others.");
        TalkCoopers x = gone();
        String before = Check.seen(x);
        dueRefused("it is that", x, x.say(1, 17), 2, 1);
        dueRefused("100", x, x.say(1, 100), 2, 2);
        dueRefused("none such", x, x.say(2, 5), 2, 3);
        int times = 3;
        for (int k : FAR_OUT) {
            dueRefused("say(1, " + k + ")", x, x.say(1, k), 2, ++times);
            dueRefused("say(" + k + ", 5)", x, x.say(k, 5), 2, ++times);
        }
        Check.dueStays("say()", x, before);
        x = Check.with(TWO);
        dueRefused("it is 0", x, x.say(0, 0), 2, 1);
        x = new TalkCoopers();
        dueRefused("without a table", x, x.say(0, 0), 2, 1);
    }

    // ---- promises 25 and 26.

    private static void minutes() {
        Check.sentence("n MINUTES (1 .. 100): how many BURST (each time counts)");
        for (int n : new int[] {1, 2, 99, 100}) {
            TalkCoopers x = Check.with(TWO + "starts all;");
            Check.due("minutes(" + n + ")", x.minutes(n), 2 * n);
            Check.due("MINUTE", x.has(3), n);
            Check.due("one ACT", x.has(7), 1);
            Check.due("without GUESTS", Check.with("table 3;").minutes(n), 0);
        }
    }

    private static void dueNone(String call, TalkCoopers x, int answer, int times) {
        Check.due(call, answer, TalkCoopers.NONE);
        Check.due("status(3) behind " + call, x.status(3), times);
    }

    private static void minutesRefused() {
        Check.sentence("NONE, refused (3), when it can't be (beyond MINUTE 999), or without a table.");
        TalkCoopers x = gone();
        String before = Check.seen(x);
        dueNone("minutes(0)", x, x.minutes(0), 1);
        dueNone("minutes(101)", x, x.minutes(101), 2);
        int times = 2;
        for (int n : FAR_OUT) {
            dueNone("minutes(" + n + ")", x, x.minutes(n), ++times);
        }
        Check.dueStays("minutes()", x, before);
        x = new TalkCoopers();
        dueNone("without a table", x, x.minutes(1), 1);
        dueNone("without a table", x, x.minutes(0), 2);
    }

    private static TalkCoopers at(int minute) {
        TalkCoopers x = Check.with("table 4;guest a at 1 wet 3 hot 0;toast 100;");
        Check.due("on", Check.on(x, Check.withCheck(minute >> 8, minute & 255, 0, 0, 0, 0, 1, 5)), true);
        return x;
    }

    private static void minutesBeyond999() {
        Check.sentence("when it can't be (beyond MINUTE 999)");
        for (int n : new int[] {1, 2, 50, 100}) {
            TalkCoopers x = at(999 - n);
            Check.due("up to 999", x.minutes(n) >= 0, true);
            Check.due("MINUTE", x.has(3), 999);
            x = at(1000 - n);
            String before = Check.seen(x);
            dueNone("up to 1000", x, x.minutes(n), 1);
            Check.dueStays("minutes(" + n + ")", x, before);
        }
    }

    private static void chance() {
        Check.sentence("n MINUTES by the seed (1 .. 100), one ACT: how many toasts");
        for (int n : new int[] {1, 2, 99, 100}) {
            TalkCoopers x = Check.with(TWO + "toast 100;");
            Check.due("chance(" + n + ")", x.chance(n), n);
            Check.due("MINUTE", x.has(3), n);
            Check.due("one ACT", x.has(7), 1);
            x.undo();
            Check.due("undone at once", x.has(3), 0);
            Check.due("without GUESTS", Check.with("table 3;toast 100;").chance(n), 0);
            Check.due("without toast", Check.with(TWO).chance(n), 0);
        }
    }

    private static void chanceRefused() {
        Check.sentence("how many toasts; NONE, refused (3), when it can't be, or without a table.");
        TalkCoopers x = gone();
        String before = Check.seen(x);
        dueNone("chance(0)", x, x.chance(0), 1);
        dueNone("chance(101)", x, x.chance(101), 2);
        int times = 2;
        for (int n : FAR_OUT) {
            dueNone("chance(" + n + ")", x, x.chance(n), ++times);
        }
        Check.dueStays("chance()", x, before);
        x = new TalkCoopers();
        dueNone("without a table", x, x.chance(1), 1);
        Check.table(x, TWO + "toast 50;");
        TalkCoopers y = Check.with(TWO + "toast 50;");
        x.chance(101);
        Check.due("a refused one draws nothing", x.chance(60), y.chance(60));
        Check.due("a refused one draws nothing", x.has(4), y.has(4));
    }

    private static void chanceBeyond999() {
        Check.sentence("NONE, refused (3), when it can't be");
        for (int n : new int[] {1, 2, 50, 100}) {
            TalkCoopers x = at(999 - n);
            Check.due("up to 999", x.chance(n), n);
            Check.due("MINUTE", x.has(3), 999);
            x = at(1000 - n);
            String before = Check.seen(x);
            dueNone("up to 1000", x, x.chance(n), 1);
            Check.dueStays("chance(" + n + ")", x, before);
        }
    }

    // ---- promises 27 and 28.

    private static void undoEachAct() {
        Check.sentence("The latest ACT is undone (the seed stays): true");
        for (int k = 0; k < 7; k++) {
            TalkCoopers x = Check.with(TWO + "toast 90;");
            x.minutes(6);
            x.say(1, 40);
            String before = Check.seen(x);
            act(x, k);
            Check.due("ACTS", x.has(7), 3);
            Check.due("undo", x.undo(), true);
            Check.dueStays("an ACT undone", x, before);
        }
        TalkCoopers x = Check.with(TWO + "toast 90;");
        String before = Check.seen(x);
        for (int k = 0; k < 7; k++) {
            act(x, k);
            Check.due("ACTS", x.has(7), k + 1);
        }
        for (int k = 6; k >= 0; k--) {
            Check.due("undo", x.undo(), true);
            Check.due("ACTS", x.has(7), k);
        }
        Check.dueStays("all ACTS undone", x, before);
        Check.due("none is left", x.undo(), false);
    }

    /** An ACT of each kind, each of which can be done behind the one ahead of it. */
    private static void act(TalkCoopers x, int kind) {
        switch (kind) {
            case 0: x.drive(0, 1); break;
            case 1: x.drive(3, 0); break;
            case 2: x.sit(0, 3); break;
            case 3: x.say(1, 60); break;
            case 4: x.minutes(3); break;
            case 5: x.chance(3); break;
            default: x.sit(1, 2);
        }
    }

    private static void undoLeavesTheSeed() {
        Check.sentence("(the seed stays)");
        String table = "table 3;guest a at 0 wet 0 hot 0;swells 0;starts not all;toast 50;";
        TalkCoopers x = Check.with(table);
        TalkCoopers y = Check.with(table);
        x.chance(5);
        x.undo();
        y.chance(5);
        y.say(0, y.guest(0, 3) == 0 ? 1 : 0);
        y.say(0, y.guest(0, 3) == 0 ? 1 : 0);
        int swell = y.guest(0, 3);
        Check.due("what comes by the seed goes on", x.chance(5), y.chance(5));
        Check.due("SWELL", x.guest(0, 3), y.guest(0, 3) - swell);
    }

    /** What was KEPT ahead of an ACT is told again when it is undone, even what was no more among the last 40. */
    private static void undoOfWhatIsKept() {
        Check.sentence("The latest ACT is undone (the seed stays): true");
        TalkCoopers x = Check.with("table 3;guest a at 0 wet 0 hot 0;swells 1;starts all;");
        x.minutes(30);
        x.minutes(100);
        Check.due("has(5)", x.has(5), 40);
        Check.due("kept(0, 0)", x.kept(0, 0), 90);
        x.undo();
        Check.due("has(5)", x.has(5), 30);
        for (int k = 0; k < 30; k++) {
            Check.due("kept(" + k + ", 0)", x.kept(k, 0), k);
            Check.due("kept(" + k + ", 3)", x.kept(k, 3), 1);
        }
        x.undo();
        Check.due("has(5)", x.has(5), 0);
        Check.due("kept(0, 0)", x.kept(0, 0), -1);
    }

    private static void undoRefused() {
        Check.sentence("true; false, refused (4), when none can be.");
        TalkCoopers x = new TalkCoopers();
        dueRefused("without a table", x, x.undo(), 4, 1);
        Check.table(x, TWO);
        dueRefused("behind table()", x, x.undo(), 4, 2);
        x.say(0, 5);
        Check.due("undo", x.undo(), true);
        String before = Check.seen(x);
        dueRefused("none is left", x, x.undo(), 4, 3);
        Check.dueStays("undo()", x, before);
        x.say(0, 5);
        Check.on(x, Check.image(x));
        dueRefused("behind on()", x, x.undo(), 4, 4);
        Check.due("SWELL", x.guest(0, 3), 5);
    }

    private static void undoneAndDoneAnew() {
        Check.sentence("The last 20 can be undone.");
        TalkCoopers x = Check.with(TWO);
        for (int k = 1; k <= 30; k++) {
            x.say(0, k);
        }
        for (int k = 0; k < 15; k++) {
            x.undo();
        }
        Check.due("SWELL", x.guest(0, 3), 15);
        Check.due("ACTS", x.has(7), 5);
        for (int k = 61; k <= 80; k++) {
            x.say(0, k);
        }
        Check.due("ACTS", x.has(7), 20);
        for (int k = 79; k >= 61; k--) {
            x.undo();
            Check.due("SWELL", x.guest(0, 3), k);
        }
        x.undo();
        Check.due("SWELL", x.guest(0, 3), 15);
        dueRefused("the five ahead are gone", x, x.undo(), 4, 1);
    }

    private static void seed() {
        Check.sentence("The seed: true; false, refused (5), when it is below 0.");
        TalkCoopers x = new TalkCoopers();
        for (int seed : new int[] {0, 1, 2, Integer.MAX_VALUE - 1, Integer.MAX_VALUE}) {
            Check.due("seed(" + seed + ")", x.seed(seed), true);
        }
        Check.due("status(5)", x.status(5), 0);
        Check.due("no ACT", x.has(7), 0);
    }

    private static void seedRefused() {
        Check.sentence("true; false, refused (5), when it is below 0.");
        TalkCoopers x = Check.with(TWO + "toast 50;");
        TalkCoopers y = Check.with(TWO + "toast 50;");
        x.seed(99);
        y.seed(99);
        dueRefused("seed(-1)", x, x.seed(-1), 5, 1);
        dueRefused("seed(MIN)", x, x.seed(Integer.MIN_VALUE), 5, 2);
        Check.due("the seed stays", x.chance(60), y.chance(60));
        Check.due("the seed stays", x.has(4), y.has(4));
    }

    private static void seedAtFirst() {
        Check.sentence("(It is 1 at first.)");
        TalkCoopers x = Check.with(TWO + "toast 50;");
        TalkCoopers y = Check.with(TWO + "toast 50;");
        y.seed(1);
        Check.due("chance", x.chance(60), y.chance(60));
        Check.due("all SWELLS", x.has(4), y.has(4));
        // 1103527590: of 64 17242618, of 100 18
        Check.due("18 is not below 18", Check.with("table 3;guest a at 0 wet 0 hot 0;toast 18;").chance(1), 0);
        Check.due("18 is below 19", Check.with("table 3;guest a at 0 wet 0 hot 0;toast 19;").chance(1), 1);
    }

    // ---- promise 29.

    private static void askNone() {
        Check.sentence("its answer; NONE of first, last, when its TEST holds for none");
        TalkCoopers x = Check.with(TWO);
        Check.dueAsk(x, "first wet=9", 0);
        Check.dueAsk(x, "last wet=4", 1);
        Check.dueAsk(x, "first wet=5", TalkCoopers.NONE);
        Check.dueAsk(x, "last wet=5", TalkCoopers.NONE);
        Check.dueAsk(x, "often wet=5", 0);
        Check.dueAsk(x, "total 0-1", -2);
        Check.due("the tape goes", x.feed(0, 0, 0, 0, 0), 20);
    }

    private static void askFault() {
        Check.sentence("NOTHING with a FAULT");
        TalkCoopers x = gone();
        String before = Check.seen(x);
        Check.dueAskFault(x, "", 1, 0);
        Check.dueAskFault(x, "total x", 1, 6);
        Check.dueAskFault(x, "total (((((((1", 4, 12);
        Check.due("the tape goes", x.feed(0, 0, 0, 0, 0), 20);
        Check.dueStays("ask()", x, before);
        for (int what = 0; what < 6; what++) {
            Check.due("nothing is refused", x.status(what), 0);
        }
    }

    private static void askWithoutTable() {
        Check.sentence("(the tape goes, nothing else is done, fault() stays) without a table");
        TalkCoopers x = new TalkCoopers();
        Check.due("a good one", Check.ask(x, "total 1"), TalkCoopers.NOTHING);
        Check.due("fault(0)", x.fault(0), 0);
        Check.due("fault(1)", x.fault(1), -1);
        Check.due("the tape goes", x.feed(0, 0, 0, 0, 0), 20);
        Check.due("a bad one", Check.ask(x, "total total"), TalkCoopers.NOTHING);
        Check.due("fault(0)", x.fault(0), 0);
        Check.due("fault(1)", x.fault(1), -1);
        Check.table(x, "table 2;");
        Check.due("a good one", Check.ask(x, "often all"), TalkCoopers.NOTHING);
        Check.due("fault(0)", x.fault(0), 2);
        Check.due("fault(1)", x.fault(1), 6);
        Check.due("refused is table() alone", x.status(1), 1);
    }

    // ---- promises 30 to 33.

    private static void imageHowMany() {
        Check.sentence("AN IMAGE is written: how many bytes.");
        Check.due("without a table", new TalkCoopers().image(), 3);
        Check.due("without GUESTS", Check.with("table 3;").image(), 6);
        Check.due("nine SEATS", Check.with("table 9;").image(), 12);
        Check.due("of two", Check.with(TWO).image(), 12);
        StringBuilder b = new StringBuilder("table 9;");
        for (int g = 0; g < 7; g++) {
            b.append("guest ").append((char) ('a' + g)).append(" at ").append(g).append(" wet 0 hot 0;");
        }
        Check.due("the most", Check.with(b.toString()).image(), 26);
        TalkCoopers x = Check.with(TWO);
        x.say(0, 5);
        x.image();
        Check.due("no ACT", x.has(7), 1);
        Check.due("the tape stays", x.feed(0, 0, 0, 0, 0), 20);
        x.image();
        Check.due("the tape stays", x.feed(0, 0, 0, 0, 0), 40);
    }

    private static void octet() {
        Check.sentence("Byte k of the latest image()");
        TalkCoopers x = Check.with(TWO);
        x.image();
        x.say(0, 44);
        Check.due("of the latest", x.octet(8), 0);
        x.image();
        Check.due("of the latest", x.octet(8), 44);
        x.undo();
        Check.due("it stays behind undo()", x.octet(8), 44);
        x.minutes(1);
        Check.due("it stays behind minutes()", x.octet(1), 0);
        Check.on(x, Check.withCheck(0, 9, 0, 0, 0, 0, 0, 3, 9, 4, 9));
        Check.due("it stays behind on()", x.octet(1), 0);
    }

    private static void octetNone() {
        Check.sentence("NONE when there is none such.");
        TalkCoopers x = Check.with(TWO);
        Check.due("ahead of image()", x.octet(0), -1);
        x.image();
        Check.due("the last one", x.octet(11) >= 0, true);
        Check.due("behind it", x.octet(12), -1);
        for (int k : FAR_OUT) {
            Check.due("octet(" + k + ")", x.octet(k), -1);
        }
        Check.table(x, "table 3;");
        x.image();
        Check.due("behind a shorter one", x.octet(6), -1);
        Check.due("its last one", x.octet(5), 224);
    }

    private static void on() {
        Check.sentence("true, all is as it tells, nothing is KEPT or can be undone");
        TalkCoopers x = gone();
        Check.due("on", Check.on(x, Check.withCheck(3, 231, 1, 1, 1, 1, 1, 3, 99, 4, 0)), true);
        int[] due = {5, 2, 5, 999, 99, 0, 1, 0};
        for (int what = 0; what < 8; what++) {
            Check.due("has(" + what + ")", x.has(what), due[what]);
        }
        Check.due("ann's SEAT", x.guest(0, 0), 3);
        Check.due("bo's SEAT", x.guest(1, 0), 4);
        Check.due("on of all 0", Check.on(x, Check.withCheck(0, 0, 0, 0, 0, 0, 0, 1, 0, 0, 0)), true);
        Check.due("MINUTE", x.has(3), 0);
        Check.due("HOOPS", x.has(2), 0);
        Check.due("who is in SEAT 0", x.seat(0, 0), 1);
        Check.due("who is in SEAT 3", x.seat(3, 0), -1);
        Check.due("kept", x.kept(0, 0), -1);
        Check.due("undo", x.undo(), false);
        Check.due("without GUESTS", Check.on(Check.with("table 3;"), Check.withCheck(0, 0, 0, 0, 0)), true);
    }

    private static void onGoes() {
        Check.sentence("The tape (it goes) is AN IMAGE of this TABLE");
        TalkCoopers x = Check.with(TWO);
        Check.on(x, Check.image(x));
        Check.due("of an image", x.feed(0, 0, 0, 0, 0), 20);
        Check.due("20 bytes of 0", x.on(), false);
        Check.due("of none", x.feed(0, 0, 0, 0, 0), 20);
        Check.on(new TalkCoopers(), Check.withCheck(0, 0));
        TalkCoopers y = Check.with("table 5;guest a at 0 wet 0 hot 0;guest b at 4 wet 0 hot 0;");
        Check.due("an image that another TABLE of as many has, too", Check.on(x, Check.image(y)), true);
        y = Check.with("table 6;guest a at 0 wet 0 hot 0;guest b at 5 wet 0 hot 0;");
        Check.due("one SEAT too many", Check.on(x, Check.image(y)), false);
        y = Check.with("table 3;guest a at 2 wet 0 hot 0;guest b at 1 wet 0 hot 0;guest c at 0 wet 0 hot 0;");
        Check.due("two SEATS less, a GUEST more", Check.on(Check.with(TWO), Check.image(y)), false);
    }

    private static void onRefused() {
        Check.sentence("false, refused (5), when it is none (MINUTE 999, SWELLS 99, flags 1 at most; SEATS that there are, no two in one), "
                + "or without a table, all staying.");
        int[][] wrong = {{3, 232, 0, 0, 0, 0, 0, 0, 0, 1, 0}, {4, 0, 0, 0, 0, 0, 0, 0, 0, 1, 0}, {255, 255, 0, 0, 0, 0, 0, 0, 0, 1, 0},
            {0, 0, 2, 0, 0, 0, 0, 0, 0, 1, 0}, {0, 0, 0, 0, 0, 0, 2, 0, 0, 1, 0}, {0, 0, 0, 0, 255, 0, 0, 0, 0, 1, 0},
            {0, 0, 0, 0, 0, 0, 0, 5, 0, 1, 0}, {0, 0, 0, 0, 0, 0, 0, 0, 0, 5, 0}, {0, 0, 0, 0, 0, 0, 0, 255, 0, 1, 0},
            {0, 0, 0, 0, 0, 0, 0, 0, 100, 1, 0}, {0, 0, 0, 0, 0, 0, 0, 0, 0, 1, 100}, {0, 0, 0, 0, 0, 0, 0, 0, 255, 1, 0},
            {0, 0, 0, 0, 0, 0, 0, 0, 0, 0, 0}, {0, 0, 0, 0, 0, 0, 0, 4, 0, 4, 0},
            {0, 0, 0, 0, 0, 0, 0, 0, 0, 1}, {0, 0, 0, 0, 0, 0, 0, 0, 0, 1, 0, 0}, {0, 0, 0, 0, 0, 0, 0, 0, 0, 1, 0, 2, 0}, {}};
        TalkCoopers x = gone();
        String before = Check.seen(x);
        for (int k = 0; k < wrong.length; k++) {
            dueRefused("on() " + k, x, Check.on(x, Check.withCheck(wrong[k])), 5, k + 1);
        }
        int[] spoilt = Check.withCheck(0, 0, 0, 0, 0, 0, 0, 0, 0, 1, 0);
        spoilt[11] = (spoilt[11] + 1) % 251;
        dueRefused("another last byte", x, Check.on(x, spoilt), 5, wrong.length + 1);
        dueRefused("no byte", x, Check.on(x), 5, wrong.length + 2);
        Check.dueStays("on()", x, before);
        Check.due("undo", x.undo(), true);
        Check.due("at the edges", Check.on(x, Check.withCheck(3, 231, 1, 1, 1, 1, 1, 4, 99, 0, 99)), true);
    }

    private static void onWithoutTable() {
        Check.sentence("or without a table, all staying.");
        TalkCoopers x = new TalkCoopers();
        x.image();
        dueRefused("its own image", x, Check.on(x, Check.image(x)), 5, 1);
        Check.due("the tape goes", x.feed(0, 0, 0, 0, 0), 20);
        dueRefused("MINUTE 5", x, Check.on(x, Check.withCheck(0, 5)), 5, 2);
        Check.due("MINUTE", x.has(3), 0);
    }

    private static void status() {
        Check.sentence("How many were refused: 0 feed(), end(); 1 table(), hear(); 2 drive(), sit(), say(); 3 minutes(), chance(); "
                + "4 undo(); 5 seed(), on().");
        TalkCoopers x = new TalkCoopers();
        int[] due = new int[6];
        for (int k = 0; k < 81; k++) {
            x.feed(0, 0, 0, 0, 0);
        }
        due[0]++;
        dueStatus(x, due);
        x.end(1601);
        due[0]++;
        dueStatus(x, due);
        x.table();
        due[1]++;
        dueStatus(x, due);
        x.hear();
        due[1]++;
        dueStatus(x, due);
        x.drive(0, 1);
        due[2]++;
        dueStatus(x, due);
        x.sit(0, 0);
        due[2]++;
        dueStatus(x, due);
        x.say(0, 0);
        due[2]++;
        dueStatus(x, due);
        x.minutes(1);
        due[3]++;
        dueStatus(x, due);
        x.chance(1);
        due[3]++;
        dueStatus(x, due);
        x.undo();
        due[4]++;
        dueStatus(x, due);
        x.seed(-1);
        due[5]++;
        dueStatus(x, due);
        x.on();
        due[5]++;
        dueStatus(x, due);
    }

    private static void dueStatus(TalkCoopers x, int[] due) {
        for (int what = 0; what < 6; what++) {
            Check.due("status(" + what + ")", x.status(what), due[what]);
        }
    }

    private static void statusOthers() {
        Check.sentence("5 seed(), on(). NONE for others.");
        TalkCoopers x = new TalkCoopers();
        for (int what : new int[] {-1, 6, 7, Integer.MIN_VALUE, Integer.MAX_VALUE}) {
            Check.due("status(" + what + ")", x.status(what), -1);
        }
    }

    private static void statusOfWhatIsNotRefused() {
        Check.sentence("How many were refused");
        TalkCoopers x = new TalkCoopers();
        Check.ask(x, "x");
        x.fault(9);
        x.has(9);
        x.letter(9, 9);
        x.guest(9, 9);
        x.seat(9, 9);
        x.kept(9, 9);
        x.later(9, 99);
        x.bursts(9);
        x.burst(99);
        x.hoops(99);
        x.change(99, 9);
        x.seating(99, 9);
        x.tun(999);
        x.row();
        x.wets(9);
        x.tells(9, 9);
        x.image();
        x.octet(99);
        x.status(9);
        x.seed(0);
        x.end(0);
        dueStatus(x, new int[6]);
        Check.table(x, TWO);
        Check.ask(x, "total x");
        x.drive(0, 1);
        x.sit(0, 4);
        x.say(0, 4);
        x.minutes(1);
        x.chance(1);
        x.undo();
        Check.hear(x, 0, 0, 0);
        Check.on(x, Check.image(x));
        dueStatus(x, new int[6]);
    }
}

/** Promises 10 (kept), 22 (drive), 23 (sit), 24 (say), 25 (minutes), 26 (chance), 27 (undo) and 28 (seed). */
public final class ActsTest {
    private static final String TWO = "table 5;guest ann at 0 wet 9 hot 2;guest bo at 1 wet 4 hot 1;";

    public static void main(String[] args) {
        drive();
        sit();
        say();
        minutes();
        lastMinutes();
        kept();
        keptForty();
        chance();
        toasts();
        chanceRefused();
        undo();
        undoTwenty();
        undoBringsBackWhatWasKept();
        seed();
        Check.close("ActsTest");
    }

    private static void drive() {
        TalkCoopers x = Check.with(TWO + "hoop 2;");
        Check.due("drive(0, 1)", x.drive(0, 1), true);
        Check.due("drive(4, 1)", x.drive(4, 1), true);
        Check.due("has(2)", x.has(2), 3);
        Check.due("seat(4, 1)", x.seat(4, 1), 1);
        Check.due("drive(2, 0)", x.drive(2, 0), true);
        Check.due("seat(2, 1)", x.seat(2, 1), 0);
        Check.due("acts", x.has(7), 3);
        Check.due("drive(0, 1) again", x.drive(0, 1), false);
        Check.due("drive(2, 0) again", x.drive(2, 0), false);
        Check.due("drive(5, 1)", x.drive(5, 1), false);
        Check.due("drive(-1, 1)", x.drive(-1, 1), false);
        Check.due("drive(1, 2)", x.drive(1, 2), false);
        Check.due("drive(1, -1)", x.drive(1, -1), false);
        Check.due("status(2)", x.status(2), 6);
        Check.due("acts", x.has(7), 3);
        Check.due("has(2)", x.has(2), 2);
    }

    private static void sit() {
        TalkCoopers x = Check.with(TWO);
        Check.due("sit(0, 4)", x.sit(0, 4), true);
        Check.due("guest(0, 0)", x.guest(0, 0), 4);
        Check.due("seat(4, 0)", x.seat(4, 0), 0);
        Check.due("seat(0, 0)", x.seat(0, 0), -1);
        Check.due("sit(0, 1)", x.sit(0, 1), false);
        Check.due("sit(0, 4), his own", x.sit(0, 4), false);
        Check.due("sit(0, 5)", x.sit(0, 5), false);
        Check.due("sit(0, -1)", x.sit(0, -1), false);
        Check.due("sit(2, 0)", x.sit(2, 0), false);
        Check.due("sit(-1, 0)", x.sit(-1, 0), false);
        Check.due("status(2)", x.status(2), 6);
        Check.due("acts", x.has(7), 1);
        Check.due("sit(1, 0)", x.sit(1, 0), true);
        Check.due("seat(1, 0)", x.seat(1, 0), -1);
    }

    private static void say() {
        TalkCoopers x = Check.with(TWO);
        Check.due("say(0, 99)", x.say(0, 99), true);
        Check.due("say(1, 1)", x.say(1, 1), true);
        Check.due("say(1, 0)", x.say(1, 0), true);
        Check.due("guest(0, 3)", x.guest(0, 3), 99);
        Check.due("guest(1, 3)", x.guest(1, 3), 0);
        Check.due("say(1, 0) again", x.say(1, 0), false);
        Check.due("say(1, 100)", x.say(1, 100), false);
        Check.due("say(1, -1)", x.say(1, -1), false);
        Check.due("say(2, 5)", x.say(2, 5), false);
        Check.due("say(-1, 5)", x.say(-1, 5), false);
        Check.due("status(2)", x.status(2), 5);
        Check.due("acts", x.has(7), 3);
    }

    private static void minutes() {
        TalkCoopers x = Check.with(TWO);
        Check.due("minutes(0)", x.minutes(0), -1);
        Check.due("minutes(-1)", x.minutes(-1), -1);
        Check.due("minutes(101)", x.minutes(101), -1);
        Check.due("status(3)", x.status(3), 3);
        Check.due("acts", x.has(7), 0);
        Check.due("minutes(5)", x.minutes(5), 0);
        Check.due("guest(0, 3)", x.guest(0, 3), 45);
        Check.due("minutes(1)", x.minutes(1), 2);
        Check.due("guest(0, 3)", x.guest(0, 3), 25);
        Check.due("guest(1, 3)", x.guest(1, 3), 0);
        Check.due("minute", x.has(3), 6);
        Check.due("acts", x.has(7), 2);
        Check.due("minutes(100)", x.minutes(100) > 0, true);
        Check.due("minute", x.has(3), 106);
    }

    private static void lastMinutes() {
        TalkCoopers x = Check.with("table 3;");
        for (int k = 1; k <= 9; k++) {
            Check.due("minutes(100)", x.minutes(100), 0);
        }
        Check.due("minutes(100)", x.minutes(100), -1);
        Check.due("chance(100)", x.chance(100), -1);
        Check.due("minutes(98)", x.minutes(98), 0);
        Check.due("minutes(2)", x.minutes(2), -1);
        Check.due("chance(2)", x.chance(2), -1);
        Check.due("chance(1)", x.chance(1), 0);
        Check.due("minute", x.has(3), 999);
        Check.due("minutes(1)", x.minutes(1), -1);
        Check.due("chance(1)", x.chance(1), -1);
        Check.due("status(3)", x.status(3), 6);
        Check.due("acts", x.has(7), 11);
    }

    private static void kept() {
        TalkCoopers x = Check.with(TWO);
        x.minutes(6);
        int[][] due = {{5, 0, 0, 54}, {5, 1, 1, 51}};
        for (int k = 0; k < 2; k++) {
            for (int what = 0; what < 4; what++) {
                Check.due("kept(" + k + ", " + what + ")", x.kept(k, what), due[k][what]);
            }
            Check.due("kept(k, 4)", x.kept(k, 4), -1);
            Check.due("kept(k, -1)", x.kept(k, -1), -1);
        }
        Check.due("kept(2, 0)", x.kept(2, 0), -1);
        Check.due("kept(-1, 0)", x.kept(-1, 0), -1);
        x.sit(0, 3);
        x.say(0, 70);
        x.minutes(1);
        Check.due("kept(2, 0)", x.kept(2, 0), 6);
        Check.due("kept(2, 2)", x.kept(2, 2), 3);
        Check.due("kept(2, 3)", x.kept(2, 3), 79);
        x.burst(60);
        Check.due("what is ahead is not kept", x.has(5), 3);
    }

    private static void keptForty() {
        TalkCoopers x = Check.with("table 3;guest a at 0 wet 9 hot 0;starts all;");
        x.minutes(40);
        Check.due("has(5)", x.has(5), 40);
        Check.due("the oldest", x.kept(0, 0), 0);
        x.chance(3);
        Check.due("has(5)", x.has(5), 40);
        Check.due("the oldest told", x.kept(0, 0), 3);
        Check.due("the latest", x.kept(39, 0), 42);
        Check.due("kept(40, 0)", x.kept(40, 0), -1);
        x.minutes(100);
        Check.due("the oldest told", x.kept(0, 0), 103);
    }

    /** By the seed 1: 1103527590 first, then 2524885223, 662824084, 3295386010 mod 2 to the 31. */
    private static void chance() {
        long[] seeds = new long[8];
        long s = 1;
        for (int k = 0; k < seeds.length; k++) {
            s = (1103515245L * s + 12345L) % 2147483648L;
            seeds[k] = s;
        }
        Check.due("first", seeds[0], 1103527590L);
        int hundredth = (int) (seeds[0] / 64 % 100);
        int guest = (int) (seeds[1] / 64 % 2);
        TalkCoopers x = Check.with(TWO + "toast " + (hundredth + 1) + ";");
        Check.due("chance(1)", x.chance(1), 1);
        Check.due("the one toasted", x.guest(guest, 3), guest == 0 ? 18 : 13);
        Check.due("the other", x.guest(1 - guest, 3), guest == 0 ? 4 : 9);
        Check.due("one act", x.has(7), 1);
        x = Check.with(TWO + "toast " + hundredth + ";");
        Check.due("chance(1), not below toast", x.chance(1), 0);
        Check.due("swells", x.has(4), 13);
        Check.due("one MINUTE", x.has(3), 1);
    }

    private static void toasts() {
        TalkCoopers x = Check.with("table 3;guest a at 0 wet 0 hot 0;toast 100;starts not all;");
        Check.due("chance(3)", x.chance(3), 3);
        Check.due("guest(0, 3)", x.guest(0, 3), 27);
        Check.due("one act", x.has(7), 1);
        Check.due("chance(100)", x.chance(100), 100);
        Check.due("99 at most", x.guest(0, 3), 99);
        // the toast comes ahead of what swells by it
        x = Check.with("table 3;guest a at 0 wet 0 hot 0;toast 100;starts not all;swells swell;");
        x.chance(1);
        Check.due("guest(0, 3)", x.guest(0, 3), 18);
        x = Check.with("table 3;toast 100;");
        Check.due("no guests, no toasts", x.chance(50), 0);
        x = Check.with("table 3;guest a at 0 wet 0 hot 0;toast 100;toast 0;starts not all;");
        Check.due("the last toast counts", x.chance(50), 0);
        x = Check.with("table 3;guest a at 0 wet 1 hot 0;starts not all;");
        Check.due("no toast", x.chance(50), 0);
        Check.due("guest(0, 3)", x.guest(0, 3), 50);
        x = Check.with("table 3;guest a at 0 wet 0 hot 0;toast 100;starts swell=9;");
        x.chance(2);
        Check.due("what bursts by the seed is kept", x.has(5), 2);
        Check.due("kept", x.kept(1, 3), 9);
    }

    private static void chanceRefused() {
        TalkCoopers x = Check.with("table 3;guest a at 0 wet 0 hot 0;toast 50;");
        x.seed(77);
        Check.due("chance(0)", x.chance(0), -1);
        Check.due("chance(-1)", x.chance(-1), -1);
        Check.due("chance(101)", x.chance(101), -1);
        Check.due("status(3)", x.status(3), 3);
        TalkCoopers y = Check.with("table 3;guest a at 0 wet 0 hot 0;toast 50;");
        y.seed(77);
        Check.due("a refused one draws nothing", x.chance(100), y.chance(100));
        Check.due("a refused one draws nothing", x.guest(0, 3), y.guest(0, 3));
    }

    private static void undo() {
        TalkCoopers x = Check.with(TWO);
        Check.due("undo", x.undo(), false);
        Check.due("status(4)", x.status(4), 1);
        x.drive(2, 1);
        x.sit(0, 3);
        x.say(1, 42);
        x.minutes(4);
        x.chance(2);
        // what is left behind each undo(): hoops, MINUTE, all SWELLS, acts
        // bo has 54 in the third MINUTE, bursts, and has 4 in the fourth
        int[][] due = {{1, 4, 36 + 4, 4}, {1, 0, 42, 3}, {1, 0, 0, 2}, {1, 0, 0, 1}, {0, 0, 0, 0}};
        for (int k = 0; k < 5; k++) {
            Check.due("undo " + k, x.undo(), true);
            Check.due("hoops", x.has(2), due[k][0]);
            Check.due("minute", x.has(3), due[k][1]);
            Check.due("swells", x.has(4), due[k][2]);
            Check.due("acts", x.has(7), due[k][3]);
            Check.due("seat", x.guest(0, 0), k < 3 ? 3 : 0);
            Check.due("who is in the seat", x.seat(3, 0), k < 3 ? 0 : -1);
        }
        Check.due("undo", x.undo(), false);
        Check.due("status(4)", x.status(4), 2);
    }

    private static void undoTwenty() {
        TalkCoopers x = Check.with(TWO);
        for (int k = 1; k <= 25; k++) {
            x.say(0, k);
            Check.due("acts", x.has(7), Math.min(k, 20));
        }
        for (int k = 24; k >= 5; k--) {
            Check.due("undo", x.undo(), true);
            Check.due("guest(0, 3)", x.guest(0, 3), k);
        }
        Check.due("undo", x.undo(), false);
        x.say(0, 50);
        Check.due("undo", x.undo(), true);
        Check.due("guest(0, 3)", x.guest(0, 3), 5);
    }

    private static void undoBringsBackWhatWasKept() {
        TalkCoopers x = Check.with("table 3;guest a at 0 wet 9 hot 0;starts all;");
        x.minutes(30);
        x.minutes(30);
        Check.due("kept(0, 0)", x.kept(0, 0), 20);
        x.undo();
        Check.due("has(5)", x.has(5), 30);
        Check.due("kept(0, 0)", x.kept(0, 0), 0);
        Check.due("kept(29, 0)", x.kept(29, 0), 29);
        x.undo();
        Check.due("has(5)", x.has(5), 0);
    }

    private static void seed() {
        TalkCoopers x = Check.with(TWO + "toast 50;starts not all;");
        int first = x.chance(20);
        int swells = x.has(4);
        x.undo();
        int second = x.chance(20);
        int others = x.has(4);
        Check.due("the seed stays behind undo()", first != second || swells != others, true);
        x.undo();
        Check.due("seed(1)", x.seed(1), true);
        Check.due("the seed is 1 at first", x.chance(20), first);
        Check.due("the seed is 1 at first", x.has(4), swells);
        Check.due("no act", x.has(7), 1);
        x.undo();
        Check.table(x, TWO + "toast 50;starts not all;");
        Check.due("the seed stays behind table()", x.chance(20) != first || x.has(4) != swells, true);
        Check.due("seed(-1)", x.seed(-1), false);
        Check.due("seed(MIN)", x.seed(Integer.MIN_VALUE), false);
        Check.due("status(5)", x.status(5), 2);
        Check.due("seed(0)", x.seed(0), true);
        Check.due("seed(MAX)", x.seed(Integer.MAX_VALUE), true);
        // 639188860 draws 0 of 100
        x = Check.with("table 3;guest a at 0 wet 0 hot 0;starts not all;");
        x.seed(639188860);
        Check.due("0 is not below 0", x.chance(1), 0);
        Check.table(x, "table 3;guest a at 0 wet 0 hot 0;toast 1;starts not all;");
        x.seed(639188860);
        Check.due("0 is below 1", x.chance(1), 1);
        x = Check.with("table 3;guest a at 0 wet 0 hot 0;toast 93;starts not all;");
        // from 0: 12345, 192 of 64, 92 of 100
        x.seed(0);
        Check.due("92 is below 93", x.chance(1), 1);
        x.undo();
        Check.table(x, "table 3;guest a at 0 wet 0 hot 0;toast 92;starts not all;");
        x.seed(0);
        Check.due("92 is not below 92", x.chance(1), 0);
    }
}

/** Promises 30 (image), 31 (octet), 32 (on) and 33 (status). */
public final class ImageTest {
    private static final String TWO = "table 5;guest ann at 0 wet 9 hot 2;guest bo at 1 wet 4 hot 1;hoop 3;";

    public static void main(String[] args) {
        image();
        on();
        refused();
        thereAndBack();
        status();
        Check.close("ImageTest");
    }

    private static void image() {
        TalkCoopers x = Check.with(TWO);
        Check.due("octet ahead of image()", x.octet(0), -1);
        for (int k = 0; k < 3; k++) {
            x.minutes(100);
        }
        x.drive(0, 1);
        x.sit(0, 4);
        x.say(0, 98);
        x.say(1, 7);
        Check.due("image", x.image(), 12);
        int[] due = Check.withCheck(1, 44, 1, 0, 0, 1, 0, 4, 98, 1, 7);
        for (int k = 0; k < 12; k++) {
            Check.due("octet(" + k + ")", x.octet(k), due[k]);
        }
        Check.due("octet(12)", x.octet(12), -1);
        Check.due("octet(-1)", x.octet(-1), -1);
        x.say(0, 50);
        Check.due("octet() is of the latest image()", x.octet(8), 98);
        x.image();
        Check.due("octet(8)", x.octet(8), 50);
        Check.table(x, "table 3;");
        Check.due("octet(8) stays", x.octet(8), 50);
        Check.due("image", x.image(), 6);
        Check.due("octet(8)", x.octet(8), -1);
        Check.due("acts", x.has(7), 0);
        // 223, 669, 2007, 6021, 18063, 54189 mod 251, byte by byte 0
        Check.due("octet(5)", x.octet(5), 54189 % 251);
    }

    private static void on() {
        TalkCoopers x = Check.with(TWO);
        x.minutes(6);
        Check.hear(x, 0, 0, 25);
        Check.due("on", Check.on(x, Check.withCheck(3, 231, 1, 1, 1, 1, 1, 4, 99, 0, 0)), true);
        Check.due("the tape goes", x.feed(0, 0, 0, 0, 0), 20);
        int[] due = {5, 2, 5, 999, 99, 0, 1, 0};
        for (int what = 0; what < 8; what++) {
            Check.due("has(" + what + ")", x.has(what), due[what]);
        }
        Check.due("guest(0, 0)", x.guest(0, 0), 4);
        Check.due("guest(0, 3)", x.guest(0, 3), 99);
        Check.due("guest(0, 1)", x.guest(0, 1), 9);
        Check.due("guest(1, 0)", x.guest(1, 0), 0);
        Check.due("seat(0, 0)", x.seat(0, 0), 1);
        Check.due("seat(1, 0)", x.seat(1, 0), -1);
        Check.due("seat(4, 0)", x.seat(4, 0), 0);
        Check.due("kept", x.kept(0, 0), -1);
        Check.due("undo", x.undo(), false);
        Check.due("status(5)", x.status(5), 0);
    }

    private static void refused() {
        TalkCoopers x = Check.with(TWO);
        x.minutes(6);
        int[] good = Check.withCheck(0, 9, 0, 0, 0, 0, 0, 4, 50, 0, 60);
        int[][] wrong = {
            Check.withCheck(3, 232, 0, 0, 0, 0, 0, 4, 50, 0, 60),
            Check.withCheck(4, 0, 0, 0, 0, 0, 0, 4, 50, 0, 60),
            Check.withCheck(0, 9, 2, 0, 0, 0, 0, 4, 50, 0, 60),
            Check.withCheck(0, 9, 0, 0, 0, 0, 255, 4, 50, 0, 60),
            Check.withCheck(0, 9, 0, 0, 0, 0, 0, 5, 50, 0, 60),
            Check.withCheck(0, 9, 0, 0, 0, 0, 0, 255, 50, 0, 60),
            Check.withCheck(0, 9, 0, 0, 0, 0, 0, 4, 50, 4, 60),
            Check.withCheck(0, 9, 0, 0, 0, 0, 0, 4, 100, 0, 60),
            Check.withCheck(0, 9, 0, 0, 0, 0, 0, 4, 50, 0, 255),
            Check.withCheck(0, 9, 0, 0, 0, 0, 0, 4, 50, 0, 60, 0),
            Check.withCheck(0, 9, 0, 0, 0, 0, 0, 4, 50, 0),
            Check.withCheck(0, 9),
            java.util.Arrays.copyOf(good, 11),
            java.util.Arrays.copyOf(good, 13),
            {},
            good.clone(),
        };
        wrong[15][11] ^= 1;
        for (int k = 0; k < wrong.length; k++) {
            Check.due("on " + k, Check.on(x, wrong[k]), false);
            Check.due("the tape goes", x.feed(0, 0, 0, 0, 0), 20);
            Check.due("status(5)", x.status(5), k + 1);
            Check.due("minute stays", x.has(3), 6);
            Check.due("swells stay", x.has(4), 25);
            Check.due("kept stays", x.has(5), 2);
            Check.due("acts stay", x.has(7), 1);
            Check.due("hoops stay", x.has(2), 1);
        }
        Check.due("on", Check.on(x, good), true);
        Check.due("swells", x.has(4), 110);
        TalkCoopers y = new TalkCoopers();
        Check.due("on without a table", Check.on(y, Check.withCheck(0, 0)), false);
        Check.due("status(5)", y.status(5), 1);
    }

    private static void thereAndBack() {
        TalkCoopers x = Check.with(TWO);
        x.minutes(7);
        x.drive(2, 1);
        int[] image = Check.image(x);
        int later = x.later(0, 20);
        x.minutes(50);
        Check.due("on", Check.on(x, image), true);
        Check.due("minute", x.has(3), 7);
        Check.due("later", x.later(0, 20), later);
        Check.due("an image of another table", Check.on(Check.with("table 5;guest a at 0 wet 0 hot 0;"), image), false);
    }

    private static void status() {
        TalkCoopers x = Check.with(TWO);
        x.end(-1);
        x.table();
        Check.hear(x, 0);
        x.drive(9, 1);
        x.sit(9, 1);
        x.say(9, 1);
        for (int k = 0; k < 2; k++) {
            x.minutes(0);
            x.chance(0);
        }
        for (int k = 0; k < 5; k++) {
            x.undo();
        }
        for (int k = 0; k < 3; k++) {
            x.seed(-k - 1);
            x.on();
        }
        int[] due = {1, 2, 3, 4, 5, 6};
        for (int what = 0; what < 6; what++) {
            Check.due("status(" + what + ")", x.status(what), due[what]);
        }
        Check.due("status(-1)", x.status(-1), -1);
        Check.due("status(6)", x.status(6), -1);
        Check.due("octet", x.octet(0), -1);
        Check.ask(x, "x");
        x.later(9, 9);
        x.hoops(99);
        x.tells(9, 9);
        for (int what = 0; what < 6; what++) {
            Check.due("nothing else is refused", x.status(what), due[what]);
        }
        Check.table(x, TWO);
        Check.due("status(5) stays behind table()", x.status(5), 6);
    }
}

/** Promises 2 (feed) and 3 (end). */
public final class TapeTest {
    public static void main(String[] args) {
        counts();
        bytesHighestFirst();
        fullTape();
        cutTape();
        Check.close("TapeTest");
    }

    private static void counts() {
        TalkCoopers x = new TalkCoopers();
        Check.due("feed", x.feed(1, 2, 3, 4, 5), 20);
        Check.due("feed", x.feed(-1, Integer.MIN_VALUE, Integer.MAX_VALUE, 0, 5), 40);
        Check.due("end(21)", x.end(21), true);
        Check.due("feed behind 21", x.feed(0, 0, 0, 0, 0), 41);
    }

    /** The image of a new TABLE of three SEATS has bytes above 127 too. */
    private static void bytesHighestFirst() {
        TalkCoopers x = Check.with("table 3;guest a at 1 wet 1 hot 1;");
        int[] image = Check.withCheck(2, 200, 1, 0, 1, 2, 99);
        Check.due("feed", x.feed(0x02C80100, 0x01026300 | image[7], 0, 0, 0), 20);
        Check.due("end", x.end(8), true);
        Check.due("on", x.on(), true);
        Check.due("minute", x.has(3), 712);
        Check.due("seat", x.guest(0, 0), 2);
        Check.due("swell", x.guest(0, 3), 99);
        Check.due("hoops", x.has(2), 2);
    }

    private static void fullTape() {
        TalkCoopers x = new TalkCoopers();
        for (int k = 1; k <= 80; k++) {
            Check.due("feed", x.feed(0, 0, 0, 0, 0), 20 * k);
        }
        Check.due("feed of a full tape", x.feed(0, 0, 0, 0, 0), -1);
        Check.due("status(0)", x.status(0), 1);
        Check.due("end(1600)", x.end(1600), true);
        Check.due("end(1581)", x.end(1581), true);
        Check.due("feed of 19 too few", x.feed(0, 0, 0, 0, 0), -1);
        Check.due("end(1580)", x.end(1580), true);
        Check.due("feed of 20 left", x.feed(0, 0, 0, 0, 0), 1600);
        Check.due("status(0)", x.status(0), 2);
    }

    private static void cutTape() {
        TalkCoopers x = new TalkCoopers();
        Check.due("end(0)", x.end(0), true);
        Check.due("end(1)", x.end(1), false);
        Check.due("end(-1)", x.end(-1), false);
        Check.due("end(MIN)", x.end(Integer.MIN_VALUE), false);
        Check.due("status(0)", x.status(0), 3);
        x.feed(0, 0, 0, 0, 0);
        Check.due("end(20)", x.end(20), true);
        Check.due("end(21)", x.end(21), false);
        Check.due("end(5)", x.end(5), true);
        Check.due("end(6)", x.end(6), false);
        Check.due("feed", x.feed(0, 0, 0, 0, 0), 25);
        Check.due("status(0)", x.status(0), 5);
    }
}

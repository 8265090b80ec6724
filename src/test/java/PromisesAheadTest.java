/** Promises 11 to 21, sentence by sentence: their edges. */
public final class PromisesAheadTest {
    private static final String TWO = "table 5;guest ann at 0 wet 9 hot 2;guest bo at 1 wet 4 hot 1;hoop 3;";
    private static final int[] FAR_OUT = {-1, Integer.MIN_VALUE, Integer.MAX_VALUE};

    public static void main(String[] args) {
        later();
        laterNone();
        bursts();
        burstsNone();
        burst();
        burstNone();
        hoops();
        hoopsNone();
        change();
        changeNone();
        seating();
        seatingNone();
        tun();
        tunNone();
        row();
        hearHowMany();
        hearGoes();
        hearRefused();
        hearWithoutTable();
        wetsOfNothingHeard();
        wetsBeyond999();
        wetsNone();
        tells();
        tellsWithoutWets();
        tellsWhenNoMinuteComes();
        tellsOfLastMinutes();
        tellsOthers();
        nothingChanges();
        Check.close("PromisesAheadTest");
    }

    private static TalkCoopers at(int minute) {
        TalkCoopers x = Check.with("table 4;guest a at 1 wet 3 hot 0;swells wet;starts not all;");
        Check.due("on", Check.on(x, Check.withCheck(minute >> 8, minute & 255, 0, 0, 0, 0, 1, 5)), true);
        return x;
    }

    // ---- promises 11 to 13.

    private static void later() {
        Check.sentence("The SWELL of a GUEST behind n MINUTES AHEAD (0 .. 60)");
        TalkCoopers x = Check.with(TWO + "swells 1;starts not all;");
        x.say(0, 39);
        for (int n : new int[] {0, 1, 2, 30, 59, 60}) {
            Check.due("later(0, " + n + ")", x.later(0, n), 39 + n);
            Check.due("later(1, " + n + ")", x.later(1, n), n);
        }
    }

    private static void laterNone() {
        Check.sentence("behind n MINUTES AHEAD (0 .. 60); NONE when there is none such, or n can't be.");
        TalkCoopers x = Check.with(TWO);
        for (int n : FAR_OUT) {
            Check.due("later(0, " + n + ")", x.later(0, n), -1);
            Check.due("later(" + n + ", 1)", x.later(n, 1), -1);
        }
        Check.due("later(0, 61)", x.later(0, 61), -1);
        Check.due("later(2, 0)", x.later(2, 0), -1);
        Check.due("later(7, 0)", x.later(7, 0), -1);
        Check.due("without a table", new TalkCoopers().later(0, 0), -1);
        Check.due("at 999", at(999).later(0, 1), -1);
        Check.due("at 999, none", at(999).later(0, 0), 5);
        Check.due("at 998", at(998).later(0, 1), 8);
    }

    private static void bursts() {
        Check.sentence("In the how manieth MINUTE AHEAD (0 the next one, 59 at most) a GUEST BURSTS first");
        for (int n : new int[] {0, 1, 2, 58, 59}) {
            TalkCoopers x = Check.with(TWO + "starts minute=" + n + " and wet=4 or minute>" + n + " and minute<60;");
            Check.due("bursts(1)", x.bursts(1), n);
            Check.due("bursts(0)", x.bursts(0), n < 59 ? n + 1 : -1);
        }
        Check.due("the 61st", Check.with(TWO + "starts minute=60;").bursts(0), -1);
    }

    private static void burstsNone() {
        Check.sentence("a GUEST BURSTS first; NONE when he does not, or there is none such.");
        TalkCoopers x = Check.with(TWO + "starts wet=9;");
        Check.due("he does", x.bursts(0), 0);
        Check.due("he does not", x.bursts(1), -1);
        Check.due("none such", x.bursts(2), -1);
        for (int g : FAR_OUT) {
            Check.due("bursts(" + g + ")", x.bursts(g), -1);
        }
        Check.due("without a table", new TalkCoopers().bursts(0), -1);
    }

    private static void burst() {
        Check.sentence("How many BURST in n MINUTES AHEAD (0 .. 60; each time counts)");
        TalkCoopers x = Check.with(TWO + "starts all;");
        for (int n : new int[] {0, 1, 2, 59, 60}) {
            Check.due("burst(" + n + ")", x.burst(n), 2 * n);
        }
        Check.due("without GUESTS", Check.with("table 3;starts all;").burst(60), 0);
    }

    private static void burstNone() {
        Check.sentence("(0 .. 60; each time counts); NONE when n can't be, or without a table.");
        TalkCoopers x = Check.with(TWO);
        for (int n : FAR_OUT) {
            Check.due("burst(" + n + ")", x.burst(n), -1);
        }
        Check.due("burst(61)", x.burst(61), -1);
        Check.due("at 999", at(999).burst(1), -1);
        Check.due("at 999, none", at(999).burst(0), 0);
        Check.due("without a table", new TalkCoopers().burst(0), -1);
        Check.due("without a table", new TalkCoopers().burst(1), -1);
    }

    // ---- promises 14 to 18.

    private static void hoops() {
        Check.sentence("HOOPS that hold for n MINUTES (1 .. 30), as bits");
        TalkCoopers x = Check.with(TWO + "starts minute<29 and wet=4 or minute=29;");
        Check.due("hoops(1)", x.hoops(1), 2);
        Check.due("hoops(29)", x.hoops(29), 2);
        Check.due("hoops(30)", x.hoops(30), 3);
        x.sit(0, 4);
        Check.due("hoops(30)", x.hoops(30), 16 + 2);
    }

    private static void hoopsNone() {
        Check.sentence("(1 .. 30), as bits; NONE when n can't be, or without a table.");
        TalkCoopers x = Check.with(TWO);
        for (int n : FAR_OUT) {
            Check.due("hoops(" + n + ")", x.hoops(n), -1);
        }
        Check.due("hoops(0)", x.hoops(0), -1);
        Check.due("hoops(31)", x.hoops(31), -1);
        Check.due("at 999", at(999).hoops(1), -1);
        Check.due("at 998", at(998).hoops(1), 0);
        Check.due("at 998", at(998).hoops(2), -1);
        Check.due("without a table", new TalkCoopers().hoops(1), -1);
    }

    private static void change() {
        Check.sentence("A CHANGE for n MINUTES (1 .. 30): the GUEST of the less number (what 0; NONE for none), the other one (1), "
                + "how many BURST then (2).");
        TalkCoopers x = Check.with("table 5;guest a at 0 wet 0 hot 0;guest b at 1 wet 4 hot 0;guest c at 2 wet 0 hot 0;"
                + "hoop 2;starts wet=4 and minute<30;spills 0;");
        for (int n : new int[] {1, 2, 29, 30}) {
            Check.due("change(" + n + ", 0)", x.change(n, 0), 1);
            Check.due("change(" + n + ", 1)", x.change(n, 1), 2);
            Check.due("change(" + n + ", 2)", x.change(n, 2), 0);
        }
        x.drive(2, 0);
        for (int n : new int[] {1, 2, 29, 30}) {
            Check.due("none", x.change(n, 0), -1);
            Check.due("none", x.change(n, 1), -1);
            Check.due("how many BURST", x.change(n, 2), n);
        }
    }

    private static void changeNone() {
        Check.sentence("how many BURST then (2). NONE when n can't be, without a table, or for others.");
        TalkCoopers x = Check.with(TWO);
        for (int what = 0; what < 3; what++) {
            for (int n : FAR_OUT) {
                Check.due("change(" + n + ", " + what + ")", x.change(n, what), -1);
            }
            Check.due("change(0, " + what + ")", x.change(0, what), -1);
            Check.due("change(31, " + what + ")", x.change(31, what), -1);
            Check.due("at 999", at(999).change(1, what), -1);
            Check.due("at 998", at(998).change(1, what), what < 2 ? -1 : 0);
            Check.due("without a table", new TalkCoopers().change(1, what), -1);
        }
        for (int what : FAR_OUT) {
            Check.due("change(1, " + what + ")", x.change(1, what), -1);
        }
        Check.due("change(1, 2)", x.change(1, 2), 0);
        Check.due("change(1, 3)", x.change(1, 3), -1);
    }

    private static void seating() {
        Check.sentence("A SEATING for n MINUTES (1 .. 10): how many BURST (guest NONE), the SEAT of a GUEST.");
        TalkCoopers x = Check.with("table 5;guest a at 4 wet 4 hot 0;guest b at 1 wet 0 hot 0;guest c at 2 wet 0 hot 0;"
                + "hoop 2;starts wet=4 and minute<9 or minute=9;spills 0;");
        int[] due = {2, 1, 4};
        for (int n : new int[] {1, 9, 10}) {
            Check.due("seating(" + n + ", NONE)", x.seating(n, TalkCoopers.NONE), n < 10 ? 0 : 2);
            for (int g = 0; g < 3; g++) {
                Check.due("seating(" + n + ", " + g + ")", x.seating(n, g), due[g]);
            }
        }
    }

    private static void seatingNone() {
        Check.sentence("the SEAT of a GUEST. NONE when n can't be, there is none such, or without a table.");
        TalkCoopers x = Check.with(TWO);
        for (int n : FAR_OUT) {
            Check.due("seating(" + n + ", NONE)", x.seating(n, -1), -1);
            Check.due("seating(1, " + n + ")", x.seating(1, n), n == -1 ? 0 : -1);
        }
        for (int n : new int[] {0, 11}) {
            Check.due("seating(" + n + ", NONE)", x.seating(n, -1), -1);
            Check.due("seating(" + n + ", 0)", x.seating(n, 0), -1);
        }
        Check.due("seating(1, 2)", x.seating(1, 2), -1);
        Check.due("seating(1, 7)", x.seating(1, 7), -1);
        Check.due("seating(1, -2)", x.seating(1, -2), -1);
        Check.due("at 999", at(999).seating(1, 0), -1);
        Check.due("at 998", at(998).seating(1, 0), 1);
        Check.due("without a table", new TalkCoopers().seating(1, -1), -1);
        Check.due("without a table", new TalkCoopers().seating(1, 0), -1);
        Check.due("without GUESTS", Check.with("table 3;").seating(1, -1), 0);
    }

    private static TalkCoopers sevenOf(int swell) {
        StringBuilder b = new StringBuilder("table 8;");
        for (int g = 0; g < 7; g++) {
            b.append("guest ").append((char) ('a' + g)).append(" at ").append(g).append(" wet 0 hot 0;");
        }
        TalkCoopers x = Check.with(b.toString());
        for (int g = 0; g < 7; g++) {
            x.say(g, swell);
        }
        return x;
    }

    private static void tun() {
        Check.sentence("A TUN of n (1 .. 693), as bits");
        Check.due("tun(1)", sevenOf(1).tun(1), 1);
        Check.due("tun(7)", sevenOf(1).tun(7), 127);
        Check.due("tun(693)", sevenOf(99).tun(693), 127);
        Check.due("tun(594)", sevenOf(99).tun(594), 63);
        Check.due("tun(99)", sevenOf(99).tun(99), 1);
    }

    private static void tunNone() {
        Check.sentence("as bits; NONE without one, or when n can't be.");
        TalkCoopers x = sevenOf(99);
        for (int n : FAR_OUT) {
            Check.due("tun(" + n + ")", x.tun(n), -1);
        }
        Check.due("tun(694)", x.tun(694), -1);
        Check.due("tun(692)", x.tun(692), -1);
        Check.due("tun(100)", x.tun(100), -1);
        Check.due("tun(0)", x.tun(0), -1);
        Check.due("tun(0) of those who have 0", sevenOf(0).tun(0), -1);
        Check.due("tun(1) of those who have 0", sevenOf(0).tun(1), -1);
        Check.due("without GUESTS", Check.with("table 3;").tun(1), -1);
        Check.due("without a table", new TalkCoopers().tun(1), -1);
    }

    private static void row() {
        Check.sentence("A ROW of GUESTS: how many SEATS (all, when all are taken; 0 without GUESTS).");
        Check.due("without a table", new TalkCoopers().row(), 0);
        for (int seats = 3; seats <= 9; seats++) {
            StringBuilder b = new StringBuilder("table " + seats + ";");
            Check.due("without GUESTS", Check.with(b.toString()).row(), 0);
            for (int g = 0; g < Math.min(7, seats); g++) {
                int seat = (g + seats - 1) % seats;
                b.append("guest ").append((char) ('a' + g)).append(" at ").append(seat).append(" wet 0 hot 0;");
                Check.due((g + 1) + " from the last SEAT on", Check.with(b.toString()).row(), g + 1);
            }
        }
    }

    // ---- promises 19 to 21.

    private static void hearHowMany() {
        Check.sentence("The tape (it goes) tells what is HEARD, 1 to 16 rows of three bytes: how many rows");
        TalkCoopers x = Check.with(TWO);
        for (int rows = 0; rows <= 17; rows++) {
            boolean good = rows >= 1 && rows <= 16;
            Check.due(rows + " rows", Check.hear(x, new int[3 * rows]), good ? rows : -1);
            Check.due("has(6)", x.has(6), Math.min(rows, 16));
        }
        Check.due("one row", Check.hear(x, 0, 0, 0), 1);
        Check.due("it alone", x.has(6), 1);
    }

    private static void hearGoes() {
        Check.sentence("The tape (it goes) tells what is HEARD");
        TalkCoopers x = Check.with(TWO);
        Check.hear(x, 0, 0, 0);
        Check.due("of rows", x.feed(0, 0, 0, 0, 0), 20);
        Check.due("20 bytes are no rows", x.hear(), -1);
        Check.due("of no rows", x.feed(0, 0, 0, 0, 0), 20);
    }

    private static void hearRefused() {
        Check.sentence("NONE, refused (1), all staying, when it is none such.");
        TalkCoopers x = Check.with(TWO);
        x.minutes(6);
        x.image();
        Check.hear(x, 1, 0, 34);
        String before = Check.seen(x);
        int[][] wrong = {{}, {0}, {0, 0}, {0, 0, 0, 0}, {0, 0, 0, 0, 0}, new int[47], new int[49], new int[51], new int[1600],
            {31, 0, 0}, {0, 5, 0}, {0, 0, 100}, {0, 0, 254}, {0, 0, 0, 31, 0, 0}, {0, 0, 0, 0, 5, 0}, {0, 0, 0, 0, 0, 100}};
        for (int k = 0; k < wrong.length; k++) {
            Check.due("hear " + k, Check.hear(x, wrong[k]), -1);
            Check.due("status(1)", x.status(1), k + 1);
        }
        Check.dueStays("hear()", x, before);
        Check.due("undo", x.undo(), true);
    }

    private static void hearWithoutTable() {
        Check.sentence("NONE, refused (1), all staying, when it is none such.");
        TalkCoopers x = new TalkCoopers();
        Check.due("there is no SEAT", Check.hear(x, 0, 0, 255), -1);
        Check.due("has(6)", x.has(6), 0);
        Check.due("status(1)", x.status(1), 1);
        Check.due("the tape goes", x.feed(0, 0, 0, 0, 0), 20);
    }

    private static void wetsOfNothingHeard() {
        Check.sentence("WETS of a GUEST by what is HEARD (all, if nothing is; MINUTES beyond 999 are by none), as bits.");
        Check.due("at 0", at(0).wets(0), 1023);
        Check.due("at 999", at(999).wets(0), 1023);
    }

    private static void wetsBeyond999() {
        Check.sentence("MINUTES beyond 999 are by none");
        TalkCoopers x = at(969);
        Check.hear(x, 30, 0, 255);
        Check.due("30 at 969", x.wets(0), 1023);
        x = at(970);
        Check.hear(x, 30, 0, 255);
        Check.due("30 at 970", x.wets(0), 0);
        Check.hear(x, 29, 0, 255);
        Check.due("29 at 970", x.wets(0), 1023);
        Check.hear(x, 0, 0, 255, 30, 0, 255, 1, 0, 255);
        Check.due("one row beyond", x.wets(0), 0);
        x = at(999);
        Check.hear(x, 0, 1, 5);
        Check.due("0 at 999", x.wets(0), 1023);
        Check.hear(x, 1, 1, 5);
        Check.due("1 at 999", x.wets(0), 0);
        Check.due("what is HEARD can be told", x.has(6), 1);
    }

    private static void wetsNone() {
        Check.sentence("as bits. NONE when there is none such.");
        TalkCoopers x = Check.with(TWO);
        for (int g : FAR_OUT) {
            Check.due("wets(" + g + ")", x.wets(g), -1);
        }
        Check.due("wets(2)", x.wets(2), -1);
        Check.due("wets(1)", x.wets(1), 1023);
        Check.due("without a table", new TalkCoopers().wets(0), -1);
        Check.hear(x, 0, 0, 1);
        Check.due("none fit", x.wets(0), 0);
    }

    private static void tells() {
        Check.sentence("TELLING for a GUEST: the number of MINUTES AHEAD (what 0), the SEAT (1), how many WETS are left at the most (2).");
        TalkCoopers x = at(0);
        Check.due("MINUTES", x.tells(0, 0), 1);
        Check.due("SEAT", x.tells(0, 1), 1);
        Check.due("left", x.tells(0, 2), 1);
        Check.hear(x, 1, 1, 5 + 4);
        Check.due("MINUTES", x.tells(0, 0), 1);
        Check.due("SEAT, all like", x.tells(0, 1), 0);
        Check.due("left", x.tells(0, 2), 1);
    }

    private static void tellsWithoutWets() {
        Check.sentence("NONE without any, when no MINUTE comes, there is none such, or for others.");
        TalkCoopers x = at(0);
        Check.hear(x, 0, 1, 6);
        for (int what = 0; what < 3; what++) {
            Check.due("without any", x.tells(0, what), -1);
        }
        x = at(990);
        Check.hear(x, 10, 0, 255);
        for (int what = 0; what < 3; what++) {
            Check.due("what is HEARD is beyond 999", x.tells(0, what), -1);
        }
    }

    private static void tellsWhenNoMinuteComes() {
        Check.sentence("when no MINUTE comes");
        for (int what = 0; what < 3; what++) {
            Check.due("at 999", at(999).tells(0, what), -1);
            Check.due("at 998", at(998).tells(0, what), 1);
        }
    }

    private static void tellsOfLastMinutes() {
        Check.sentence("TELLING is the number of MINUTES AHEAD (1 .. 30)");
        for (int left = 1; left <= 31; left++) {
            TalkCoopers x = Check.with("table 3;guest a at 1 wet 3 hot 0;swells max(0,minute-997)*wet;starts not all;");
            int minute = 999 - left;
            Check.on(x, Check.withCheck(minute >> 8, minute & 255, 0, 0, 0, 1, 0));
            Check.due(left + " MINUTES come", x.tells(0, 0), left <= 30 ? left : 1);
            Check.due(left + " MINUTES come", x.tells(0, 2), left <= 30 ? 1 : 10);
        }
        TalkCoopers x = Check.with("table 3;guest a at 1 wet 3 hot 0;swells max(0,minute-998)*wet;starts not all;");
        Check.on(x, Check.withCheck(990 >> 8, 990 & 255, 0, 0, 0, 1, 0));
        Check.due("none tells", x.tells(0, 2), 10);
    }

    private static void tellsOthers() {
        Check.sentence("there is none such, or for others.");
        TalkCoopers x = at(0);
        for (int k : FAR_OUT) {
            Check.due("tells(" + k + ", 0)", x.tells(k, 0), -1);
            Check.due("tells(0, " + k + ")", x.tells(0, k), -1);
        }
        Check.due("tells(1, 0)", x.tells(1, 0), -1);
        Check.due("tells(0, 3)", x.tells(0, 3), -1);
        Check.due("without a table", new TalkCoopers().tells(0, 0), -1);
        Check.due("without GUESTS", Check.with("table 3;").tells(0, 0), -1);
    }

    /** What is sought ahead leaves all as it is. */
    private static void nothingChanges() {
        Check.sentence("AHEAD are MINUTES as they come from now on without DRAWS");
        TalkCoopers x = Check.with(TWO);
        x.minutes(7);
        x.drive(2, 1);
        x.image();
        Check.hear(x, 1, 2, 255);
        String before = Check.seen(x);
        x.later(0, 60);
        x.bursts(0);
        x.burst(60);
        x.hoops(30);
        x.change(30, 0);
        x.seating(10, 0);
        x.tun(5);
        x.row();
        x.wets(0);
        x.tells(1, 0);
        Check.dueStays("looking ahead", x, before);
    }
}

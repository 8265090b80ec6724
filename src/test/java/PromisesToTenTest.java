/** Promises 1 to 10, sentence by sentence: their edges. */
public final class PromisesToTenTest {
    private static final String TWO = "table 5;guest ann at 0 wet 9 hot 2;guest bo at 1 wet 4 hot 1;hoop 3;";

    public static void main(String[] args) {
        newObject();
        feedTwenty();
        feedUpTo1600();
        feedHighestFirst();
        endUpToAllOfThem();
        endRefused();
        endFirstBytesAlone();
        tableHowMany();
        tableGoes();
        tableAllStays();
        tableWithoutStatement();
        tableOfWholeTape();
        tableAsAtFirst();
        tableSeedStays();
        faultWithout();
        faultOfTheLatest();
        faultOthers();
        hasNothing();
        hasAll();
        hasOthers();
        letters();
        lettersOfNone();
        guestOthers();
        seatOfNobody();
        seatOthers();
        keptFromTheOldest();
        keptOthers();
        Check.close("PromisesToTenTest");
    }

    // ---- promises 1 to 3.

    private static void newObject() {
        Check.sentence("`TalkCoopers()`: No table, no guests.");
        TalkCoopers x = new TalkCoopers();
        for (int what = 0; what < 8; what++) {
            Check.due("has(" + what + ")", x.has(what), 0);
        }
        Check.due("guest(0, 0)", x.guest(0, 0), -1);
        Check.due("seat(0, 0)", x.seat(0, 0), -1);
        Check.due("burst(0)", x.burst(0), -1);
        Check.due("octet(0)", x.octet(0), -1);
        Check.due("the tape is empty", x.end(1), false);
    }

    private static void feedTwenty() {
        Check.sentence("Twenty bytes come behind those on the tape, of each number the highest first: how many there are");
        TalkCoopers x = new TalkCoopers();
        Check.due("upon 0", x.feed(0, 0, 0, 0, 0), 20);
        Check.due("upon 20", x.feed(-1, -1, -1, -1, -1), 40);
        x.end(1);
        Check.due("upon 1", x.feed(Integer.MIN_VALUE, 0, 0, 0, Integer.MAX_VALUE), 21);
        x.end(0);
        Check.due("upon 0", x.feed(0, 0, 0, 0, 0), 20);
    }

    private static void feedUpTo1600() {
        Check.sentence("NONE, refused (0), if there would be more than 1600.");
        TalkCoopers x = new TalkCoopers();
        for (int k = 1; k <= 80; k++) {
            Check.due("feed", x.feed(0x20202020, 0x20202020, 0x20202020, 0x20202020, 0x20202020), 20 * k);
        }
        Check.due("1620", x.feed(0, 0, 0, 0, 0), -1);
        Check.due("status(0)", x.status(0), 1);
        x.end(1581);
        Check.due("1601", x.feed(0, 0, 0, 0, 0), -1);
        Check.due("status(0)", x.status(0), 2);
        Check.due("no more than there were", x.end(1582), false);
        x.end(1580);
        Check.due("1600", x.feed(0x20202020, 0x20202020, 0x20202020, 0x20202020, 0x20202020), 1600);
        Check.due("status(0)", x.status(0), 3);
        Check.due("what was refused is not on the tape", x.table(), -1);
        Check.due("blanks alone", x.fault(1), 1600);
    }

    private static void feedHighestFirst() {
        Check.sentence("of each number the highest first");
        TalkCoopers x = Check.with("table 4;guest a at 0 wet 0 hot 0;");
        x.say(0, 7);
        // rows 0 0 7, 0 1 255, 1 2 255, 0 3 255, 30 1 255, 2 2 255
        x.feed(0x00000700, 0x01FF0102, 0xFF0003FF, 0x1E01FF02, 0x02FF0000);
        x.end(18);
        Check.due("hear", x.hear(), 6);
        Check.due("wets", x.wets(0), 1023);
        x.feed(0x00070000, 0, 0, 0, 0);
        x.end(3);
        Check.due("a second byte of 7 is no SEAT", x.hear(), -1);
        x.feed(0x80000000, 0, 0, 0, 0);
        x.end(3);
        Check.due("a first byte of 128", x.hear(), -1);
        x.feed(0x7F, 0, 0, 0, 0);
        x.end(3);
        Check.due("the lowest byte is behind the third", x.hear(), 1);
    }

    private static void endUpToAllOfThem() {
        Check.sentence("The tape has its first n bytes alone: true");
        TalkCoopers x = new TalkCoopers();
        Check.due("0 of 0", x.end(0), true);
        x.feed(0, 0, 0, 0, 0);
        Check.due("20 of 20", x.end(20), true);
        Check.due("19 of 20", x.end(19), true);
        Check.due("19 of 19", x.end(19), true);
        Check.due("1 of 19", x.end(1), true);
        Check.due("0 of 1", x.end(0), true);
        Check.due("status(0)", x.status(0), 0);
    }

    private static void endRefused() {
        Check.sentence("false, refused (0), if it has not so many, or n is below 0.");
        TalkCoopers x = new TalkCoopers();
        Check.due("1 of 0", x.end(1), false);
        x.feed(0, 0, 0, 0, 0);
        int[] wrong = {21, 1600, 1601, Integer.MAX_VALUE, -1, -20, Integer.MIN_VALUE};
        for (int k = 0; k < wrong.length; k++) {
            Check.due("end(" + wrong[k] + ")", x.end(wrong[k]), false);
            Check.due("status(0)", x.status(0), k + 2);
        }
        Check.due("the tape stays", x.feed(0, 0, 0, 0, 0), 40);
    }

    private static void endFirstBytesAlone() {
        Check.sentence("The tape has its first n bytes alone");
        TalkCoopers x = new TalkCoopers();
        Check.tape(x, "table 3;hoop 1;hoop 2;");
        x.end(15);
        Check.due("table", x.table(), 2);
        Check.due("has(2)", x.has(2), 1);
        Check.tape(x, "table 3;hoop 1;hoop 2;");
        x.end(8);
        x.feed(0x686F6F70, 0x20303B20, 0x20202020, 0x20202020, 0x20202020);
        Check.due("what comes then is behind them", x.table(), 2);
        Check.due("the HOOP on SEAT 0", x.seat(0, 1), 1);
        Check.due("none on SEAT 1", x.seat(1, 1), 0);
    }

    // ---- promise 4.

    private static void tableHowMany() {
        Check.sentence("The tape (it goes) is THE TABLE: how many STATEMENTS");
        Check.dueTable("table 3;", 1);
        Check.dueTable(TWO, 4);
        Check.dueTable("table 3;" + "toast 7;".repeat(59), 60);
    }

    private static void tableGoes() {
        Check.sentence("The tape (it goes) is THE TABLE");
        TalkCoopers x = new TalkCoopers();
        Check.table(x, TWO);
        Check.due("of a TABLE", x.feed(0, 0, 0, 0, 0), 20);
        Check.due("of no TABLE", x.table(), -1);
        Check.due("it has gone", x.feed(0, 0, 0, 0, 0), 20);
        x.end(0);
        x.table();
        Check.due("an empty one", x.feed(0, 0, 0, 0, 0), 20);
    }

    /** A run of calls behind which there is something of all that table() makes go. */
    private static TalkCoopers full() {
        TalkCoopers x = Check.with(TWO);
        x.minutes(6);
        x.drive(2, 1);
        Check.hear(x, 1, 0, 34);
        x.image();
        return x;
    }

    private static void tableAllStays() {
        Check.sentence("NONE, refused (1), with a FAULT (all stays;");
        String[] wrong = {"", "table 2;", "table 3;guest a at 0 wet 1 hot 1;guest a at 1 wet 1 hot 1;", "table 3;swells 9;starts all;hoop 3;",
            "table 9;swells (((((((", "table 9;toast 100;spills 1;spills 2;", "table 3;" + "toast 9;".repeat(60), "table 3;hoop 1"};
        TalkCoopers x = full();
        String before = Check.seen(x);
        for (int k = 0; k < wrong.length; k++) {
            Check.due("table() of " + wrong[k], Check.table(x, wrong[k]), -1);
            Check.due("status(1)", x.status(1), k + 1);
        }
        Check.dueStays("table()", x, before);
        Check.due("what the rules say", x.later(0, 20), full().later(0, 20));
        Check.due("undo", x.undo(), true);
        Check.due("the latest ACT", x.seat(2, 1), 0);
        Check.due("undo", x.undo(), true);
        Check.due("MINUTE", x.has(3), 0);
    }

    private static void tableWithoutStatement() {
        Check.sentence("one without a STATEMENT has FAULT 1 at its length");
        for (int length : new int[] {0, 1, 2, 19, 20, 21, 1599, 1600}) {
            Check.dueTableFault(" ".repeat(length), 1, length);
            Check.dueTableFault("\n".repeat(length), 1, length);
        }
    }

    private static void tableOfWholeTape() {
        Check.sentence("The tape (it goes) is THE TABLE");
        String end = "hoop 1;";
        Check.dueTable("table 3;" + " ".repeat(1600 - 15) + end, 2);
        Check.dueTable("table 3;" + end + "\n".repeat(1600 - 15), 2);
        Check.dueTableFault("table 3;" + " ".repeat(1600 - 14) + "hoop 1", 1, 1600);
        String sum = "1+".repeat(700);
        TalkCoopers x = Check.with("table 3;guest a at 0 wet 0 hot 0;swells " + sum + "0-690;starts not all;");
        Check.due("a long SUM", x.later(0, 1), 10);
        String test = "1=2 or ".repeat(200);
        Check.due("a long TEST", Check.with("table 3;guest a at 0 wet 0 hot 0;starts " + test + "1=1;").bursts(0), 0);
    }

    private static void tableAsAtFirst() {
        Check.sentence("Without one all is as at first, nothing is KEPT, HEARD or can be undone");
        TalkCoopers x = full();
        Check.due("table", Check.table(x, TWO), 4);
        int[] due = {5, 2, 1, 0, 0, 0, 0, 0};
        for (int what = 0; what < 8; what++) {
            Check.due("has(" + what + ")", x.has(what), due[what]);
        }
        Check.due("the HOOP of the TABLE", x.seat(3, 1), 1);
        Check.due("none of before", x.seat(2, 1), 0);
        Check.due("kept(0, 0)", x.kept(0, 0), -1);
        Check.due("wets(0)", x.wets(0), 1023);
        Check.due("undo", x.undo(), false);
        x.sit(0, 4);
        x.say(1, 50);
        Check.table(x, TWO);
        Check.due("SEAT", x.guest(0, 0), 0);
        Check.due("SWELL", x.guest(1, 3), 0);
    }

    private static void tableSeedStays() {
        Check.sentence("the seed stays (so do status() and octet())");
        TalkCoopers x = full();
        x.undo();
        x.undo();
        x.undo();
        x.minutes(0);
        x.seed(4711);
        TalkCoopers y = Check.with(TWO + "toast 50;");
        y.seed(4711);
        Check.table(x, TWO + "toast 50;");
        Check.due("chance", x.chance(40), y.chance(40));
        Check.due("all SWELLS", x.has(4), y.has(4));
        int[] refused = {0, 0, 0, 1, 1, 0};
        for (int what = 0; what < 6; what++) {
            Check.due("status(" + what + ")", x.status(what), refused[what]);
        }
        int[] image = Check.withCheck(0, 6, 0, 0, 1, 1, 0, 0, 25, 1, 0);
        for (int k = 0; k <= 12; k++) {
            Check.due("octet(" + k + ")", x.octet(k), k < 12 ? image[k] : -1);
        }
    }

    // ---- promise 5.

    private static void faultWithout() {
        Check.sentence("its FAULT (what 0; 0 without, and ahead of any), its place (1; NONE without)");
        TalkCoopers x = new TalkCoopers();
        Check.due("ahead of any", x.fault(0), 0);
        Check.due("ahead of any", x.fault(1), -1);
        Check.table(x, TWO);
        Check.due("without", x.fault(0), 0);
        Check.due("without", x.fault(1), -1);
        Check.ask(x, "total 1");
        Check.due("without", x.fault(0), 0);
        Check.due("without", x.fault(1), -1);
        Check.table(x, "");
        Check.due("place 0 is one", x.fault(1), 0);
    }

    private static void faultOfTheLatest() {
        Check.sentence("Of the latest table() or ask()");
        TalkCoopers x = Check.with(TWO);
        Check.ask(x, "total (((((((1");
        Check.due("of ask()", x.fault(0), 4);
        Check.due("of ask()", x.fault(1), 12);
        Check.table(x, "table 3;hoop 8;");
        Check.due("of table()", x.fault(0), 2);
        Check.due("of table()", x.fault(1), 13);
        Check.hear(x, 1);
        Check.on(x, 1);
        x.end(-1);
        x.say(9, 9);
        x.image();
        Check.due("of neither", x.fault(0), 2);
        Check.due("of neither", x.fault(1), 13);
        Check.ask(x, "total 1");
        Check.due("ask() without one", x.fault(0), 0);
        Check.due("ask() without one", x.fault(1), -1);
        Check.ask(x, "");
        Check.table(x, TWO);
        Check.due("table() without one", x.fault(0), 0);
        Check.due("table() without one", x.fault(1), -1);
    }

    private static void faultOthers() {
        Check.sentence("NONE for another what.");
        TalkCoopers x = new TalkCoopers();
        Check.table(x, "table 2;");
        for (int what : new int[] {-1, 2, 3, Integer.MIN_VALUE, Integer.MAX_VALUE}) {
            Check.due("fault(" + what + ")", x.fault(what), -1);
        }
    }

    // ---- promises 6 to 10.

    private static void hasNothing() {
        Check.sentence("How many there are: 0 SEATS, 1 GUESTS, 2 HOOPS, 3 MINUTE, 4 all SWELLS together, 5 what is told as KEPT, "
                + "6 rows HEARD, 7 ACTS that can be undone.");
        TalkCoopers x = Check.with("table 3;");
        for (int what = 0; what < 8; what++) {
            Check.due("has(" + what + ")", x.has(what), what == 0 ? 3 : 0);
        }
    }

    private static void hasAll() {
        Check.sentence("How many there are: 0 SEATS, 1 GUESTS, 2 HOOPS, 3 MINUTE, 4 all SWELLS together");
        StringBuilder b = new StringBuilder("table 9;starts not all;swells 99;");
        for (int k = 0; k < 9; k++) {
            b.append("hoop ").append(k).append(";");
            b.append(k < 7 ? "guest " + (char) ('a' + k) + " at " + k + " wet 0 hot 0;" : "");
        }
        TalkCoopers x = Check.with(b.toString());
        for (int k = 0; k < 9; k++) {
            x.minutes(100);
        }
        x.minutes(99);
        for (int k = 1; k <= 21; k++) {
            x.say(0, k);
        }
        x.say(0, 99);
        Check.hear(x, new int[48]);
        int[] due = {9, 7, 9, 999, 693, 0, 16, 20};
        for (int what = 0; what < 8; what++) {
            Check.due("has(" + what + ")", x.has(what), due[what]);
        }
    }

    private static void hasOthers() {
        Check.sentence("7 ACTS that can be undone. NONE for others.");
        for (TalkCoopers x : new TalkCoopers[] {new TalkCoopers(), full()}) {
            for (int what : new int[] {-1, 8, 9, Integer.MIN_VALUE, Integer.MAX_VALUE}) {
                Check.due("has(" + what + ")", x.has(what), -1);
            }
        }
    }

    private static void letters() {
        Check.sentence("Letter k (0 .. 5) of the NAME of a GUEST: 1 .. 26; 0 behind it");
        TalkCoopers x = Check.with("table 9;guest a at 0 wet 0 hot 0;guest zz at 1 wet 0 hot 0;guest abcxyz at 2 wet 0 hot 0;");
        int[][] due = {{1, 0, 0, 0, 0, 0}, {26, 26, 0, 0, 0, 0}, {1, 2, 3, 24, 25, 26}};
        for (int g = 0; g < 3; g++) {
            for (int k = 0; k < 6; k++) {
                Check.due("letter(" + g + ", " + k + ")", x.letter(g, k), due[g][k]);
            }
        }
        Check.table(x, "table 9;guest ab at 0 wet 0 hot 0;");
        Check.due("behind a shorter one", x.letter(0, 2), 0);
    }

    private static void lettersOfNone() {
        Check.sentence("0 behind it; NONE when there is none such.");
        TalkCoopers x = Check.with(TWO);
        for (int k : new int[] {-1, 6, 7, Integer.MIN_VALUE, Integer.MAX_VALUE}) {
            Check.due("letter(0, " + k + ")", x.letter(0, k), -1);
            Check.due("letter(" + k + ", 0)", x.letter(k, 0), -1);
        }
        Check.due("letter(1, 0)", x.letter(1, 0), 2);
        Check.due("letter(2, 0)", x.letter(2, 0), -1);
    }

    private static void guestOthers() {
        Check.sentence("Of a GUEST: 0 his SEAT, 1 how wet, 2 how hot, 3 his SWELL. NONE when there is none such, or for others.");
        TalkCoopers x = Check.with(TWO);
        for (int k : new int[] {-1, 4, 5, Integer.MIN_VALUE, Integer.MAX_VALUE}) {
            Check.due("guest(0, " + k + ")", x.guest(0, k), -1);
            Check.due("guest(" + k + ", 0)", x.guest(k, 0), -1);
        }
        for (int what = 0; what < 4; what++) {
            Check.due("guest(2, " + what + ")", x.guest(2, what), -1);
            Check.due("guest(1, " + what + ")", x.guest(1, what), new int[] {1, 4, 1, 0}[what]);
        }
    }

    private static void seatOfNobody() {
        Check.sentence("Of a SEAT: 0 the GUEST in it (NONE), 1 whether there is a HOOP, 2 its LOAD.");
        TalkCoopers x = Check.with(TWO);
        int[] who = {0, 1, -1, -1, -1};
        for (int s = 0; s < 5; s++) {
            Check.due("seat(" + s + ", 0)", x.seat(s, 0), who[s]);
            Check.due("seat(" + s + ", 1)", x.seat(s, 1), s == 3 ? 1 : 0);
            Check.due("seat(" + s + ", 2)", x.seat(s, 2), 0);
        }
        x.sit(0, 4);
        Check.due("the SEAT that he went from", x.seat(0, 0), -1);
        Check.due("the SEAT that he went to", x.seat(4, 0), 0);
    }

    private static void seatOthers() {
        Check.sentence("2 its LOAD. NONE when there is none such, or for others.");
        TalkCoopers x = Check.with(TWO);
        for (int k : new int[] {-1, 5, 6, Integer.MIN_VALUE, Integer.MAX_VALUE}) {
            for (int what = 0; what < 3; what++) {
                Check.due("seat(" + k + ", " + what + ")", x.seat(k, what), -1);
            }
            Check.due("seat(3, " + k + ")", x.seat(3, k < 0 ? k : k - 2), -1);
        }
        x = Check.with("table 9;");
        Check.due("seat(8, 1)", x.seat(8, 1), 0);
        Check.due("seat(9, 1)", x.seat(9, 1), -1);
    }

    private static void keptFromTheOldest() {
        Check.sentence("Of what is told as KEPT, the k-th from the oldest on: 0 MINUTE, 1 GUEST, 2 SEAT, 3 SWELL.");
        TalkCoopers x = Check.with(TWO);
        x.minutes(9);
        int[][] due = {{5, 0, 0, 54}, {5, 1, 1, 51}, {8, 0, 0, 52}};
        Check.due("has(5)", x.has(5), 3);
        for (int k = 0; k < 3; k++) {
            for (int what = 0; what < 4; what++) {
                Check.due("kept(" + k + ", " + what + ")", x.kept(k, what), due[k][what]);
            }
        }
    }

    private static void keptOthers() {
        Check.sentence("3 SWELL. NONE when there is none such, or for others.");
        TalkCoopers x = Check.with(TWO);
        Check.due("nothing is KEPT", x.kept(0, 0), -1);
        x.minutes(6);
        for (int k : new int[] {-1, 2, 40, Integer.MIN_VALUE, Integer.MAX_VALUE}) {
            Check.due("kept(" + k + ", 0)", x.kept(k, 0), -1);
        }
        for (int what : new int[] {-1, 4, Integer.MIN_VALUE, Integer.MAX_VALUE}) {
            Check.due("kept(1, " + what + ")", x.kept(1, what), -1);
        }
        x = Check.with("table 3;guest a at 0 wet 0 hot 0;starts all;");
        x.minutes(41);
        Check.due("the 40th", x.kept(39, 0), 40);
        Check.due("a 41st", x.kept(40, 0), -1);
    }
}

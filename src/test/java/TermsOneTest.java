/** Terms I, sentence by sentence: the edges of a TABLE. */
public final class TermsOneTest {
    private static final String T = "table 3;";
    private static final String G = "guest a at 0 wet 1 hot 2;";
    /** A GUEST who never BURSTS and has no more SWELL than the SUM of swells gives him. */
    private static final String QUIET = "table 5;guest a at 0 wet 7 hot 2;starts not all;swells ";

    public static void main(String[] args) {
        sixtyStatements();
        threeToNineSeats();
        tableFirstAndAlone();
        seatOfGuest();
        wetAndHot();
        sevenGuests();
        seatOfHoop();
        oneEach();
        toast();
        digits();
        leftAndRight();
        hooped();
        size();
        fromTheLeft();
        andAheadOfOr();
        quotients();
        heldAtAMillion();
        withoutSwells();
        withoutStarts();
        withoutSpills();
        names();
        namesUnlike();
        blanks();
        sideBySide();
        noSuchText();
        ownWordAsName();
        seventhLetter();
        fifthDigit();
        endsTooSoon();
        numberThatCantBe();
        seventhOpen();
        notUntilItsFactEnds();
        tooManyOfAKind();
        sixtyFirst();
        theFirstAlongTheText();
        Check.close("TermsOneTest");
    }

    // ---- STATEMENTS.

    private static void sixtyStatements() {
        Check.sentence("{ STATEMENT ; } (60 at most)");
        Check.dueTable(T, 1);
        Check.dueTable(T + "toast 1;", 2);
        Check.dueTable(T + "toast 1;".repeat(58), 59);
        Check.dueTable(T + "toast 1;".repeat(59), 60);
        Check.dueTableFault(T + "toast 1;".repeat(60), 5, 8 + 59 * 8);
    }

    private static void threeToNineSeats() {
        Check.sentence("table N (3 .. 9 SEATS; the first STATEMENT, and it alone)");
        for (int seats = 3; seats <= 9; seats++) {
            TalkCoopers x = Check.with("table " + seats + ";");
            Check.due("has(0)", x.has(0), seats);
            Check.due("the last SEAT", x.seat(seats - 1, 1), 0);
            Check.due("behind the last SEAT", x.seat(seats, 1), -1);
        }
        Check.dueTableFault("table 2;", 2, 6);
        Check.dueTableFault("table 1;", 2, 6);
        Check.dueTableFault("table 0;", 2, 6);
        Check.dueTableFault("table 10;", 2, 6);
        Check.dueTableFault("table 9999;", 2, 6);
        Check.dueTable("table 0003;", 1);
    }

    private static void tableFirstAndAlone() {
        Check.sentence("the first STATEMENT, and it alone");
        Check.dueTableFault("hoop 0;table 3;", 1, 0);
        Check.dueTableFault("toast 0;" + T, 1, 0);
        Check.dueTableFault(G + T, 1, 0);
        Check.dueTableFault("swells 1;", 1, 0);
        Check.dueTableFault(T + T, 1, 8);
        Check.dueTableFault(T + "toast 1;" + "table 4;", 1, 16);
    }

    private static void seatOfGuest() {
        Check.sentence("(a SEAT, from 0 on, in which none is; 0 .. 9 each; 7 GUESTS)");
        for (int seats = 3; seats <= 9; seats++) {
            String table = "table " + seats + ";";
            Check.due("SEAT 0", Check.with(table + G).guest(0, 0), 0);
            int last = seats - 1;
            Check.due("the last SEAT", Check.with(table + "guest a at " + last + " wet 1 hot 2;").guest(0, 0), last);
            Check.dueTableFault(table + "guest a at " + seats + " wet 1 hot 2;", 2, 19);
        }
        Check.dueTableFault(T + "guest a at 9999 wet 1 hot 2;", 2, 19);
        Check.dueTableFault(T + G + "guest b at 0 wet 1 hot 2;", 2, 44);
        String three = T + G + "guest b at 1 wet 1 hot 2;guest c at 2 wet 1 hot 2;";
        Check.dueTable(three, 4);
        for (int s = 0; s <= 3; s++) {
            Check.dueTableFault(three + "guest d at " + s + " wet 1 hot 2;", 2, three.length() + 11);
        }
    }

    private static void wetAndHot() {
        Check.sentence("0 .. 9 each");
        for (int n = 0; n <= 9; n++) {
            TalkCoopers x = Check.with(T + "guest a at 0 wet " + n + " hot " + (9 - n) + ";");
            Check.due("wet", x.guest(0, 1), n);
            Check.due("hot", x.guest(0, 2), 9 - n);
        }
        Check.dueTableFault(T + "guest a at 0 wet 10 hot 9;", 2, 25);
        Check.dueTableFault(T + "guest a at 0 wet 9 hot 10;", 2, 31);
        Check.dueTableFault(T + "guest a at 0 wet 9999 hot 9;", 2, 25);
    }

    /** A TABLE with as many GUESTS as are told, in the SEATS from 0 on. */
    private static String guests(int seats, int many) {
        StringBuilder b = new StringBuilder("table " + seats + ";");
        for (int g = 0; g < many; g++) {
            b.append("guest ").append((char) ('a' + g)).append(" at ").append(g).append(" wet 1 hot 1;");
        }
        return b.toString();
    }

    private static void sevenGuests() {
        Check.sentence("7 GUESTS");
        Check.due("no GUEST", Check.with(guests(9, 0)).has(1), 0);
        Check.due("seven", Check.with(guests(9, 7)).has(1), 7);
        Check.due("seven of seven SEATS", Check.with(guests(7, 7)).has(1), 7);
        int eighth = guests(9, 7).length();
        Check.dueTableFault(guests(9, 8), 5, eighth);
        Check.dueTableFault(guests(7, 8), 5, eighth);
        Check.dueTableFault(guests(9, 7) + "guest 1", 5, eighth);
    }

    private static void seatOfHoop() {
        Check.sentence("hoop N (a SEAT where there is none yet)");
        for (int seats = 3; seats <= 9; seats++) {
            StringBuilder all = new StringBuilder("table " + seats + ";");
            for (int s = seats - 1; s >= 0; s--) {
                all.append("hoop ").append(s).append(";");
            }
            Check.due("a HOOP on each SEAT", Check.with(all.toString()).has(2), seats);
            Check.dueTableFault("table " + seats + ";hoop " + seats + ";", 2, 13);
        }
        Check.dueTableFault(T + "hoop 0;hoop 0;", 2, 20);
        Check.dueTableFault(T + "hoop 2;hoop 1;hoop 2;", 2, 27);
        Check.dueTableFault(T + "hoop 0;hoop 1;hoop 2;hoop 1;", 2, 34);
    }

    private static void oneEach() {
        Check.sentence("swells SUM, starts TEST, spills SUM (one each)");
        Check.dueTable(T + "swells 1;starts all;spills 1;", 4);
        Check.dueTable(T + "spills 1;starts all;swells 1;", 4);
        Check.dueTableFault(T + "swells 1;starts all;spills 1;swells 1;", 5, 37);
        Check.dueTableFault(T + "swells 1;starts all;spills 1;starts all;", 5, 37);
        Check.dueTableFault(T + "swells 1;starts all;spills 1;spills 1;", 5, 37);
    }

    private static int toasts(String statements) {
        return Check.with("table 3;guest a at 0 wet 0 hot 0;starts not all;" + statements).chance(100);
    }

    private static void toast() {
        Check.sentence("toast N (0 .. 100; the last one counts, 0 without)");
        Check.due("toast 0", toasts("toast 0;"), 0);
        Check.due("toast 100", toasts("toast 100;"), 100);
        Check.due("toast 50 is between", toasts("toast 50;") > 20 && toasts("toast 50;") < 80, true);
        Check.dueTableFault(T + "toast 101;", 2, 14);
        Check.dueTableFault(T + "toast 9999;", 2, 14);
        Check.due("the last one counts", toasts("toast 0;toast 100;"), 100);
        Check.due("the last one counts", toasts("toast 100;toast 50;toast 0;"), 0);
        Check.due("without", toasts(""), 0);
    }

    // ---- TESTS and SUMS.

    private static void digits() {
        Check.sentence("PART: N (1 to 4 digits)");
        String[] numbers = {"0", "7", "0007", "42", "099", "0042"};
        int[] due = {0, 7, 7, 42, 99, 42};
        for (int k = 0; k < numbers.length; k++) {
            Check.due("swells " + numbers[k], Check.with(QUIET + numbers[k] + ";").later(0, 1), due[k]);
        }
        Check.due("four digits", Check.with(QUIET + "9999-9990;").later(0, 1), 9);
        Check.dueTableFault(T + "swells 00000;", 1, 19);
        Check.dueTableFault(T + "swells ;", 1, 15);
    }

    private static void leftAndRight() {
        Check.sentence("the SWELL of the GUEST in the SEAT less by one, more by one, 0 without");
        for (int seats = 3; seats <= 9; seats++) {
            int last = seats - 1;
            String both = "table " + seats + ";guest a at 0 wet 0 hot 0;guest b at " + last + " wet 0 hot 0;starts not all;";
            TalkCoopers x = Check.with(both + "swells left;");
            x.say(0, 10);
            x.say(1, 20);
            Check.due("left of SEAT 0 is the last SEAT", x.later(0, 1), 10 + 20);
            Check.due("left of the last SEAT", x.later(1, 1), 20);
            x = Check.with(both + "swells right;");
            x.say(0, 10);
            x.say(1, 20);
            Check.due("right of SEAT 0", x.later(0, 1), 10);
            Check.due("right of the last SEAT is SEAT 0", x.later(1, 1), 20 + 10);
        }
    }

    private static void hooped() {
        Check.sentence("1 if there is a HOOP at his SEAT, else 0");
        TalkCoopers x = Check.with("table 4;guest a at 0 wet 0 hot 0;guest b at 3 wet 0 hot 0;hoop 3;hoop 2;swells 5+hooped;");
        Check.due("without", x.later(0, 1), 5);
        Check.due("with", x.later(1, 1), 6);
        x.drive(0, 1);
        x.drive(3, 0);
        Check.due("with", x.later(0, 1), 6);
        Check.due("without", x.later(1, 1), 5);
    }

    private static void size() {
        Check.sentence("the SWELL that BURST");
        TalkCoopers x = Check.with("table 4;guest a at 0 wet 0 hot 0;guest b at 1 wet 0 hot 0;"
                + "swells 0;starts swell=99 or swell=0;spills size+1;hoop 1;");
        x.say(0, 99);
        Check.due("of 99 at most", x.later(1, 1), 99);
        x.say(0, 0);
        Check.due("of 0", x.later(1, 1), 1);
    }

    private static void fromTheLeft() {
        Check.sentence("All from the left on");
        Check.due("10-3-2", Check.with(QUIET + "10-3-2;").later(0, 1), 5);
        Check.due("10-3+2", Check.with(QUIET + "10-3+2;").later(0, 1), 9);
        Check.due("99/7/2", Check.with(QUIET + "99/7/2;").later(0, 1), 7);
        Check.due("7/3*5", Check.with(QUIET + "7/3*5;").later(0, 1), 10);
        Check.due("5*7/3", Check.with(QUIET + "5*7/3;").later(0, 1), 11);
        Check.due("2+3*4-1", Check.with(QUIET + "2+3*4-1;").later(0, 1), 13);
    }

    private static void andAheadOfOr() {
        Check.sentence("TEST: BOTH { or BOTH }. BOTH: FACT { and FACT }. FACT: not FACT; [ TEST ] ; all; SUM SIGN SUM, SIGN < or > or = .");
        String[] tests = {"all or not all and not all", "not all and not all or all", "[all or not all]and not all",
            "not all and[not all or all]", "all and all", "all and not all", "not all and all", "not all or not all", "all and 1=1",
            "1=1 and all", "not 1=2 and 1=1", "not not all", "not not not all", "1<2", "2<2", "3<2", "2>1", "2>2", "2>3", "2=2", "2=1",
            "not[all and not all]and all", "not not not 1=2 and not not 1=1"};
        int[] holds = {1, 1, 0, 0, 1, 0, 0, 0, 1, 1, 1, 1, 0, 1, 0, 0, 1, 0, 0, 1, 0, 1, 1};
        for (int k = 0; k < tests.length; k++) {
            Check.dueAsk(Check.with(QUIET + "1;"), "often " + tests[k], holds[k]);
            TalkCoopers x = Check.with("table 3;guest a at 0 wet 0 hot 0;starts " + tests[k] + ";");
            Check.due("starts " + tests[k], x.burst(1), holds[k]);
        }
    }

    private static void quotients() {
        Check.sentence("/ gives the greatest whole number not above, by 0 it gives 0");
        String[] sums = {"7/2", "6/2", "(0-7)/2", "(0-6)/2", "7/(0-2)", "6/(0-2)", "(0-7)/(0-2)", "1/9999", "(0-1)/9999",
            "0/7", "7/0", "(0-7)/0", "0/0", "7/(2-2)"};
        int[] due = {3, 3, -4, -3, -4, -3, 3, 0, -1, 0, 0, 0, 0, 0};
        for (int k = 0; k < sums.length; k++) {
            Check.due(sums[k], Check.with(QUIET + sums[k] + "+50;").later(0, 1), due[k] + 50);
            Check.dueAsk(Check.with(QUIET + "1;"), "total " + sums[k], due[k]);
        }
    }

    private static void heldAtAMillion() {
        Check.sentence("each sum, difference, product above 10 to the 6 is that, below -10 to the 6 likewise");
        String million = "1000*1000";
        String[] sums = {million, million + "-1", million + "+0", million + "+1", million + "+1-1", "1000*999+999",
            "1001*1000", "1001*1000-1", "9999*9999-5", "(0-9999)*(0-9999)-5",
            "0-" + million, "0-" + million + "+1", "0-" + million + "-1", "0-" + million + "-1+1", "(0-1001)*1000+1",
            "9999*(0-9999)+5", million + "-(0-1)-1", "(0-" + million + ")+(0-9999)+1", million + "/(0-1)"};
        int[] due = {1000000, 999999, 1000000, 1000000, 999999, 999999,
            1000000, 999999, 999995, 999995,
            -1000000, -999999, -1000000, -999999, -999999,
            -999995, 999999, -999999, -1000000};
        for (int k = 0; k < sums.length; k++) {
            Check.dueAsk(Check.with(QUIET + "1;"), "total " + sums[k], due[k]);
            String same = due[k] / 1000 + "*1000+" + due[k] % 1000;
            String written = due[k] < 0 ? "0-" + same.replace("-", "").replace("+", "-") : same;
            TalkCoopers x = Check.with("table 3;guest a at 0 wet 0 hot 0;starts " + sums[k] + "=" + written + ";");
            Check.due("starts " + sums[k] + " is " + due[k], x.bursts(0), 0);
        }
    }

    // ---- without.

    private static void withoutSwells() {
        Check.sentence("Without: swells is wet, starts is swell>50, spills is size/2.");
        for (int wet = 0; wet <= 9; wet++) {
            TalkCoopers x = Check.with(T + "guest a at 0 wet " + wet + " hot " + (9 - wet) + ";");
            Check.due("swells is wet", x.later(0, 5), 5 * wet);
        }
    }

    private static void withoutStarts() {
        Check.sentence("Without: swells is wet, starts is swell>50, spills is size/2.");
        TalkCoopers x = Check.with(T + "guest a at 0 wet 0 hot 9;");
        x.say(0, 50);
        Check.due("50 does not burst", x.bursts(0), -1);
        x.say(0, 51);
        Check.due("51 bursts", x.bursts(0), 0);
    }

    private static void withoutSpills() {
        Check.sentence("Without: swells is wet, starts is swell>50, spills is size/2.");
        TalkCoopers x = Check.with("table 4;guest a at 0 wet 0 hot 0;guest b at 1 wet 0 hot 0;guest c at 3 wet 0 hot 0;");
        x.say(0, 51);
        Check.due("half of 51 on SEAT 1", x.later(1, 1), 25);
        Check.due("half of 51 on SEAT 3", x.later(2, 1), 25);
        x.say(0, 52);
        Check.due("half of 52", x.later(1, 1), 26);
    }

    // ---- NAMES and blanks.

    private static void names() {
        Check.sentence("NAMES: 1 to 6 letters, no OWN WORD, unlike ones.");
        TalkCoopers x = Check.with(T + "guest z at 0 wet 1 hot 1;guest zzzzzz at 1 wet 1 hot 1;");
        Check.due("one letter", x.letter(0, 0), 26);
        Check.due("behind it", x.letter(0, 1), 0);
        Check.due("six letters", x.letter(1, 5), 26);
        for (String word : "first last often total most least".split(" ")) {
            Check.dueTable(T + "guest " + word + " at 0 wet 1 hot 1;", 2);
        }
        Check.dueTableFault(T + "guest zzzzzzz at 0 wet 1 hot 1;", 1, 20);
        Check.dueTableFault(T + "guest  at 0 wet 1 hot 1;", 1, 15);
        Check.dueTableFault(T + "guest 5 at 0 wet 1 hot 1;", 1, 14);
    }

    private static void namesUnlike() {
        Check.sentence("3 a NAME that is there already, at it");
        Check.dueTableFault(T + G + "guest a at 1 wet 1 hot 1;", 3, 39);
        Check.dueTableFault(T + "guest abcdef at 0 wet 1 hot 2;guest abcdef at 1 wet 1 hot 1;", 3, 44);
        String almost = T + "guest abcdef at 0 wet 1 hot 2;guest abcdeg at 1 wet 1 hot 1;guest abcde at 2 wet 1 hot 1;";
        Check.dueTable(almost, 4);
        Check.dueTable(T + "guest ab at 0 wet 1 hot 2;guest a at 1 wet 1 hot 1;guest b at 2 wet 1 hot 1;", 4);
        String seven = guests(9, 6);
        Check.dueTableFault(seven + "guest a at 8 wet 1 hot 1;", 3, seven.length() + 6);
        Check.dueTableFault(seven + "guest f at 8 wet 1 hot 1;", 3, seven.length() + 6);
    }

    private static void blanks() {
        Check.sentence("Blanks (10, 32) are where one likes (words and numbers side by side need one).");
        Check.dueTable("\n table\n 3 \n;\n\n", 1);
        Check.dueTable("table 3;swells wet+ ( 1\n*2 ) ;", 2);
        Check.dueTable("table 3;swells(wet)+1;starts[all]and[all];", 3);
        for (int c : new int[] {0, 1, 9, 11, 12, 13, 31, 33, 127, 128, 138, 160, 255}) {
            Check.dueTableFault("table" + (char) c + "3;", 1, 5);
            Check.dueTableFault((char) c + T, 1, 0);
            Check.dueTableFault(T + (char) c, 1, 8);
        }
        Check.dueTableFault("ta ble 3;", 1, 0);
        Check.dueTableFault("table 3;toast 1 0;", 1, 16);
    }

    private static void sideBySide() {
        Check.sentence("words and numbers side by side need one");
        Check.dueTableFault("table3;", 1, 5);
        Check.dueTableFault(T + "guesta at 0 wet 1 hot 2;", 1, 8);
        Check.dueTableFault(T + "guest a1 at 0 wet 1 hot 2;", 1, 15);
        Check.dueTableFault(T + "guest a at0 wet 1 hot 2;", 1, 18);
        Check.dueTableFault(T + "guest a at 0wet 1 hot 2;", 1, 20);
        Check.dueTableFault(T + "guest a at 0 wet1 hot 2;", 1, 24);
        Check.dueTableFault(T + "guest a at 0 wet 1hot 2;", 1, 26);
        Check.dueTableFault(T + "guest a at 0 wet 1 hot2;", 1, 30);
        Check.dueTableFault(T + "hoop1;", 1, 12);
        Check.dueTableFault(T + "starts 1=1or 1=1;", 1, 18);
        Check.dueTableFault(T + "starts 1=1 or1=1;", 1, 21);
        Check.dueTableFault(T + "starts notall;", 1, 15);
        Check.dueTableFault(T + "swells 2wet;", 1, 16);
    }

    // ---- FAULTS.

    private static void noSuchText() {
        Check.sentence("1 the first byte with which no such text goes on (words and numbers whole, at their first byte;");
        Check.dueTableFault("tablet 3;", 1, 0);
        Check.dueTableFault(T + "hoops 1;", 1, 8);
        Check.dueTableFault(T + "hoop;", 1, 12);
        Check.dueTableFault(T + "hoop hoop;", 1, 13);
        Check.dueTableFault(T + "1234;", 1, 8);
        Check.dueTableFault(T + "12345;", 1, 8);
        Check.dueTableFault("table 3 12345;", 1, 8);
        Check.dueTableFault(T + "swells wetter;", 1, 15);
        Check.dueTableFault(T + "swells wet wet;", 1, 19);
        Check.dueTableFault(T + "swells wet 12;", 1, 19);
        Check.dueTableFault(T + "hoop 1,", 1, 14);
        Check.dueTableFault(T + ";", 1, 8);
        Check.dueTableFault(T + "guest a at 0 wet 1 wet 2;", 1, 27);
        Check.dueTableFault("TABLE 3;", 1, 0);
    }

    private static void ownWordAsName() {
        Check.sentence("where a NAME is asked, an OWN WORD so, a 7th letter at itself");
        String own = "table guest at wet hot hoop swells starts spills toast swell minute left right hooped load size "
                + "number seat beside far or and not all min max";
        for (String word : own.split(" ")) {
            Check.dueTableFault(T + "guest " + word + " at 0 wet 1 hot 1;", 1, 14);
            Check.dueTable(T + "guest " + word.substring(1) + " at 0 wet 1 hot 1;", 2);
            if (word.length() < 6) {
                Check.dueTable(T + "guest " + word + "x at 0 wet 1 hot 1;", 2);
            }
        }
    }

    private static void seventhLetter() {
        Check.sentence("a 7th letter at itself");
        Check.dueTableFault(T + "guest bcdefgh at 0 wet 1 hot 1;", 1, 20);
        Check.dueTableFault(T + "guest swellsx at 0 wet 1 hot 1;", 1, 20);
        Check.dueTableFault(T + "guest bcdefghijklmnopq", 1, 20);
        Check.dueTableFault(T + "guest abcdef at 0 wet 1 hot 2;guest abcdefg", 1, 50);
        Check.dueTableFault(T + "guest bcdefg7 at 0 wet 1 hot 1;", 1, 20);
    }

    private static void fifthDigit() {
        Check.sentence("where a number is asked, a 5th digit at itself");
        Check.dueTableFault("table 00003;", 1, 10);
        Check.dueTableFault(T + "guest a at 00000 wet 1 hot 1;", 1, 23);
        Check.dueTableFault(T + "guest a at 0 wet 00001 hot 1;", 1, 29);
        Check.dueTableFault(T + "guest a at 0 wet 1 hot 00001;", 1, 35);
        Check.dueTableFault(T + "hoop 00001;", 1, 17);
        Check.dueTableFault(T + "toast 00001;", 1, 18);
        Check.dueTableFault(T + "swells 00001;", 1, 19);
        Check.dueTableFault(T + "starts 00001=1;", 1, 19);
        Check.dueTableFault(T + "spills 1234567;", 1, 19);
    }

    private static void endsTooSoon() {
        Check.sentence("at the text's length, if it ends too soon");
        String text = "table 3;guest a at 0 wet 1 hot 2;hoop 1;toast 5;swells wet+(min(1,2)*3);starts not[all or 1<2]and wet=1;";
        for (int k = 0; k < text.length(); k++) {
            String front = text.substring(0, k);
            if (k > 0 && text.charAt(k - 1) == ';') {
                Check.due("whole: " + front, Check.table(new TalkCoopers(), front) > 0, true);
            } else if (k == 0 || !Character.isLetter(text.charAt(k)) || !Character.isLetter(text.charAt(k - 1))) {
                Check.dueTableFault(front, 1, k);
                Check.dueTableFault(front + " \n ", 1, k + 3);
            }
        }
        Check.dueTableFault("tabl", 1, 0);
        Check.dueTableFault(T + "hoo", 1, 8);
    }

    private static void numberThatCantBe() {
        Check.sentence("2 a number that can't be, at it");
        Check.dueTableFault("table  2", 2, 7);
        Check.dueTableFault("table 10", 2, 6);
        Check.dueTableFault(T + "guest a at 3", 2, 19);
        Check.dueTableFault(T + "guest a at 0 wet 10", 2, 25);
        Check.dueTableFault(T + "guest a at 0 wet 1 hot 10", 2, 31);
        Check.dueTableFault(T + "hoop 3", 2, 13);
        Check.dueTableFault(T + "toast 0101", 2, 14);
        Check.dueTableFault(T + "hoop 3x", 2, 13);
    }

    private static void seventhOpen() {
        Check.sentence("4 the 7th of ( [ not that is open at once (not until its FACT ends), at it");
        Check.dueTable(T + "swells ((((((1))))));", 2);
        Check.dueTableFault(T + "swells (((((((1)))))));", 4, 21);
        Check.dueTable(T + "swells (((((max(1,2))))));", 2);
        Check.dueTableFault(T + "swells ((((((max(1,2)))))));", 4, 24);
        Check.dueTable(T + "swells min(min(min(min(min(min(1,1),1),1),1),1),1);", 2);
        Check.dueTableFault(T + "swells min(1,min(1,min(1,min(1,min(1,min(1,min(1", 4, 54);
        Check.dueTable(T + "starts [[[[[[all]]]]]];", 2);
        Check.dueTableFault(T + "starts [[[[[[[all]]]]]]];", 4, 21);
        Check.dueTable(T + "starts not not not not not not all;", 2);
        Check.dueTableFault(T + "starts not not not not not not not all;", 4, 39);
        Check.dueTable(T + "starts [not[not[(1)=1]]];", 2);
        Check.dueTableFault(T + "starts [not[not[((1))=1]]];", 4, 25);
        Check.dueTableFault(T + "starts [not[not[(1)=(((2)))]]];", 4, 29);
        Check.dueTable(T + "spills ((((((1))))))*((((((1))))));", 2);
        Check.dueTable(T + "spills " + "max(1,(2))*".repeat(9) + "1;", 2);
        Check.dueTable(T + "starts " + "[[all]]and ".repeat(9) + "all;", 2);
        Check.dueTable(T + "starts " + "[not[all]]or ".repeat(9) + "all;", 2);
    }

    private static void notUntilItsFactEnds() {
        Check.sentence("(not until its FACT ends)");
        Check.dueTable(T + "starts not all and not all and not all and not all and not all and not all and not all;", 2);
        Check.dueTable(T + "starts not 1=1 or not 1=1 or not 1=1 or not 1=1 or not 1=1 or not 1=1 or not 1=1;", 2);
        Check.dueTable(T + "starts not not not not not not 1=1 and ((((((1))))))=1;", 2);
        Check.dueTableFault(T + "starts not not not not not not 1=(1);", 4, 41);
        Check.dueTableFault(T + "starts not not not not not not (1)=1;", 4, 39);
        Check.dueTableFault(T + "starts not[not not not not not all", 4, 35);
    }

    private static void tooManyOfAKind() {
        Check.sentence("5 one too many of a kind (a second swells, starts, spills, too)");
        Check.dueTableFault(T + "swells 1; swells 1;", 5, 18);
        Check.dueTableFault(T + "starts all; starts all;", 5, 20);
        Check.dueTableFault(T + "spills 1; spills 1;", 5, 18);
        Check.dueTableFault(T + "swells 1; swells", 5, 18);
        int eighth = guests(8, 7).length();
        Check.dueTableFault(guests(8, 7) + "\nguest", 5, eighth + 1);
    }

    private static void sixtyFirst() {
        Check.sentence("a 61st STATEMENT (whatever stands there), at its first byte");
        String sixty = T + "toast 1;".repeat(59);
        for (String what : "toast table x 7 12345 ; , ~ ( swells tabl".split(" ")) {
            Check.dueTableFault(sixty + what, 5, sixty.length());
            Check.dueTableFault(sixty + " \n" + what + " 1;", 5, sixty.length() + 2);
        }
        Check.dueTable(sixty + " \n ", 60);
        Check.dueTableFault(T + "toast 1;".repeat(58) + "toast 1", 1, sixty.length() - 1);
    }

    private static void theFirstAlongTheText() {
        Check.sentence("FAULTS, the first along the text");
        Check.dueTableFault("table 2;hoop 9;", 2, 6);
        Check.dueTableFault(T + "hoop 9;swells (((((((1;", 2, 13);
        Check.dueTableFault(T + "swells (((((((1;hoop 9;", 4, 21);
        Check.dueTableFault(T + "swells 1;swells (((((((1;", 5, 17);
        Check.dueTableFault(T + "x;" + "toast 1;".repeat(60), 1, 8);
        Check.dueTableFault(T + G + "guest a at 0", 3, 39);
        Check.dueTableFault(T + "hoop 3 3", 2, 13);
    }
}

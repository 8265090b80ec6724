/** Terms III, sentence by sentence: the edges of what is AHEAD, of HOOPS, CHANGE, SEATING, TUN, ROW and of what is HEARD. */
public final class TermsThreeTest {
    private static final String ONE = "table 5;guest a at 0 wet 0 hot 0;";

    public static void main(String[] args) {
        sixtyAhead();
        notBeyond999();
        notBeyond999ForPlans();
        nothingComesAt999();
        withoutDraws();
        fewestHoops();
        hoopsAlone();
        noHoops();
        leastBitsOfHoops();
        nobodyBurstsInN();
        noTwoToChange();
        noneOfLikeChanges();
        firstOfLikeChanges();
        eachTimeCounts();
        seatsTakenNow();
        fewestBySeating();
        firstOfLikeRows();
        seatingOfSeven();
        lastOfAllRows();
        spillsBySeats();
        fewestTogether();
        leastBitsTogether();
        oneBehindTheOther();
        minutesHeard();
        seatsHeard();
        swellsHeard();
        allHeardIsSo();
        zeroToNine();
        thirtyAheadTell();
        mostLeftAreFewest();
        firstOfLikeTellings();
        alwaysLike();
        Check.close("TermsThreeTest");
    }

    private static void onAt(TalkCoopers x, int minute, int... rest) {
        int[] bytes = new int[rest.length + 2];
        bytes[0] = minute / 256;
        bytes[1] = minute % 256;
        System.arraycopy(rest, 0, bytes, 2, rest.length);
        Check.due("on at " + minute, Check.on(x, Check.withCheck(bytes)), true);
    }

    // ---- AHEAD.

    private static void sixtyAhead() {
        Check.sentence("AHEAD are MINUTES as they come from now on without DRAWS (60 at most, not beyond MINUTE 999).");
        TalkCoopers x = Check.with(ONE + "swells 1;starts not all;");
        Check.due("later(0, 60)", x.later(0, 60), 60);
        Check.due("later(0, 61)", x.later(0, 61), -1);
        x = Check.with(ONE + "swells 1;starts all;");
        Check.due("burst(60)", x.burst(60), 60);
        Check.due("burst(61)", x.burst(61), -1);
        Check.due("in the 60th", Check.with(ONE + "starts minute=59;").bursts(0), 59);
        Check.due("in the 61st", Check.with(ONE + "starts minute=60;").bursts(0), -1);
    }

    private static void notBeyond999() {
        Check.sentence("60 at most, not beyond MINUTE 999");
        TalkCoopers x = Check.with(ONE + "swells 1;starts minute>997;");
        onAt(x, 939, 0, 0, 0, 0, 0, 0, 0);
        Check.due("later(0, 60) at 939", x.later(0, 59), 59);
        Check.due("later(0, 60) at 939", x.later(0, 60), 0);
        Check.due("burst(60) at 939", x.burst(60), 1);
        Check.due("bursts(0) at 939", x.bursts(0), 59);
        onAt(x, 940, 0, 0, 0, 0, 0, 0, 0);
        Check.due("later(0, 59) at 940", x.later(0, 59), 0);
        Check.due("later(0, 60) at 940", x.later(0, 60), -1);
        Check.due("burst(59) at 940", x.burst(59), 1);
        Check.due("burst(60) at 940", x.burst(60), -1);
        Check.due("bursts(0) at 940", x.bursts(0), 58);
        x = Check.with(ONE + "starts minute>998;");
        onAt(x, 940, 0, 0, 0, 0, 0, 0, 0);
        Check.due("no MINUTE is ahead of which it is 999", x.bursts(0), -1);
    }

    private static void notBeyond999ForPlans() {
        Check.sentence("60 at most, not beyond MINUTE 999");
        TalkCoopers x = Check.with(ONE + "starts minute>997;");
        onAt(x, 969, 0, 0, 0, 0, 0, 0, 0);
        Check.due("hoops(30) at 969", x.hoops(30), 1);
        Check.due("change(30, 2) at 969", x.change(30, 2), 1);
        onAt(x, 970, 0, 0, 0, 0, 0, 0, 0);
        Check.due("hoops(29) at 970", x.hoops(29), 1);
        Check.due("hoops(30) at 970", x.hoops(30), -1);
        Check.due("change(29, 2) at 970", x.change(29, 2), 1);
        Check.due("change(30, 2) at 970", x.change(30, 2), -1);
        onAt(x, 989, 0, 0, 0, 0, 0, 0, 0);
        Check.due("seating(10, -1) at 989", x.seating(10, -1), 1);
        onAt(x, 990, 0, 0, 0, 0, 0, 0, 0);
        Check.due("seating(9, -1) at 990", x.seating(9, -1), 1);
        Check.due("seating(10, -1) at 990", x.seating(10, -1), -1);
        Check.due("seating(10, 0) at 990", x.seating(10, 0), -1);
    }

    private static void nothingComesAt999() {
        Check.sentence("not beyond MINUTE 999");
        TalkCoopers x = Check.with(ONE + "starts all;");
        onAt(x, 999, 0, 0, 0, 0, 0, 0, 42);
        Check.due("later(0, 0)", x.later(0, 0), 42);
        Check.due("later(0, 1)", x.later(0, 1), -1);
        Check.due("burst(0)", x.burst(0), 0);
        Check.due("burst(1)", x.burst(1), -1);
        Check.due("bursts(0)", x.bursts(0), -1);
        Check.due("hoops(1)", x.hoops(1), -1);
        Check.due("change(1, 0)", x.change(1, 0), -1);
        Check.due("change(1, 2)", x.change(1, 2), -1);
        Check.due("seating(1, -1)", x.seating(1, -1), -1);
        Check.due("tun(42)", x.tun(42), 1);
        Check.due("row()", x.row(), 1);
    }

    private static void withoutDraws() {
        Check.sentence("as they come from now on without DRAWS");
        TalkCoopers x = Check.with(ONE + "toast 100;starts swell>8;");
        Check.due("later", x.later(0, 60), 0);
        Check.due("burst", x.burst(60), 0);
        Check.due("hoops", x.hoops(30), 0);
        Check.due("the seed stays", Check.with(ONE + "toast 50;").chance(50), afterLooking());
    }

    private static int afterLooking() {
        TalkCoopers x = Check.with(ONE + "toast 50;");
        x.later(0, 7);
        x.burst(9);
        x.hoops(3);
        x.change(3, 0);
        x.seating(3, 0);
        x.wets(0);
        x.tells(0, 0);
        return x.chance(50);
    }

    // ---- HOOPS.

    private static String seven(int seats, int from, String rules) {
        StringBuilder b = new StringBuilder("table " + seats + ";" + rules);
        for (int g = 0; g < 7; g++) {
            b.append("guest ").append((char) ('a' + g)).append(" at ").append((g + from) % seats).append(" wet 0 hot ").append(g).append(";");
        }
        return b.toString();
    }

    private static void fewestHoops() {
        Check.sentence("HOOPS that hold for n MINUTES are the fewest SEATS");
        Check.due("all seven", Check.with(seven(7, 0, "starts all;")).hoops(1), 127);
        Check.due("SEATS 2 to 8", Check.with(seven(9, 2, "starts all;")).hoops(30), 127 << 2);
        Check.due("the one at SEAT 8", Check.with(seven(9, 2, "starts hot=6;")).hoops(1), 1 << 8);
        TalkCoopers x = Check.with("table 5;guest a at 0 wet 0 hot 0;guest b at 1 wet 0 hot 0;guest c at 4 wet 0 hot 0;swells 0;spills 60;");
        x.say(0, 60);
        Check.due("who bursts first is enough, not those on whom he spills", x.hoops(2), 1);
        x = Check.with("table 4;guest a at 3 wet 0 hot 1;guest b at 0 wet 0 hot 0;guest c at 2 wet 0 hot 0;"
                + "swells 0-hooped*5;starts hot=1 and load>50;");
        for (int g = 0; g < 3; g++) {
            x.say(g, 20);
        }
        Check.due("one, not two of less bits", x.hoops(1), 8);
        Check.due("two of less bits hold too", Check.on(x, Check.withCheck(0, 0, 1, 0, 1, 0, 3, 20, 0, 20, 2, 20)) ? x.burst(1) : -1, 0);
    }

    private static void hoopsAlone() {
        Check.sentence("if there are HOOPS at these alone, nobody BURSTS in n MINUTES");
        TalkCoopers x = Check.with("table 4;guest a at 1 wet 0 hot 0;hoop 0;hoop 1;hoop 3;");
        x.say(0, 60);
        Check.due("his HOOP alone", x.hoops(1), 2);
        x.say(0, 50);
        Check.due("none of those that are there", x.hoops(1), 0);
        Check.due("the HOOPS stay", x.has(2), 3);
    }

    private static void noHoops() {
        Check.sentence("HOOPS that hold for n MINUTES are the fewest SEATS");
        Check.due("nobody BURSTS", Check.with(ONE).hoops(30), 0);
        Check.due("no GUEST", Check.with("table 3;hoop 0;starts all;").hoops(30), 0);
    }

    private static void leastBitsOfHoops() {
        Check.sentence("of like ones the least bits");
        for (int seat = 0; seat < 3; seat++) {
            TalkCoopers x = Check.with("table 4;guest a at " + (seat + 1) + " wet 0 hot 0;guest b at " + seat + " wet 0 hot 0;"
                    + "swells hooped*(0-50);starts load>50;");
            x.say(0, 30);
            x.say(1, 30);
            Check.due("either would do", x.hoops(1), 1 << seat);
        }
    }

    private static void nobodyBurstsInN() {
        Check.sentence("nobody BURSTS in n MINUTES");
        for (int n = 1; n <= 30; n++) {
            TalkCoopers x = Check.with(ONE + "starts minute=" + n + ";");
            Check.due("ahead of MINUTE " + n, x.hoops(n), 0);
            Check.due("in MINUTE " + n, n < 30 ? x.hoops(n + 1) : 1, 1);
        }
    }

    // ---- CHANGE.

    private static void dueChange(TalkCoopers x, int n, int less, int other, int bursts) {
        Check.due("change(" + n + ", 0)", x.change(n, 0), less);
        Check.due("change(" + n + ", 1)", x.change(n, 1), other);
        Check.due("change(" + n + ", 2)", x.change(n, 2), bursts);
    }

    private static void noTwoToChange() {
        Check.sentence("A CHANGE for n MINUTES are two GUESTS, or none");
        dueChange(Check.with("table 3;starts all;"), 1, -1, -1, 0);
        dueChange(Check.with(ONE + "starts all;hoop 1;"), 30, -1, -1, 30);
    }

    /** Four GUESTS at 1, 3, 5 and 7; c and d have HOOPS. */
    private static TalkCoopers four() {
        return Check.with("table 9;guest a at 1 wet 0 hot 0;guest b at 3 wet 0 hot 0;guest c at 5 wet 0 hot 0;"
                + "guest d at 7 wet 0 hot 0;hoop 5;hoop 7;swells 0;spills 0;");
    }

    private static void noneOfLikeChanges() {
        Check.sentence("of like ones none, then the first (by the less number, then by the other one)");
        TalkCoopers x = four();
        dueChange(x, 1, -1, -1, 0);
        x.say(2, 60);
        dueChange(x, 1, -1, -1, 0);
        x.say(0, 60);
        x.say(3, 60);
        x.say(1, 60);
        dueChange(x, 1, -1, -1, 2);
    }

    private static void firstOfLikeChanges() {
        Check.sentence("then the first (by the less number, then by the other one)");
        TalkCoopers x = four();
        x.say(0, 60);
        x.say(1, 60);
        dueChange(x, 1, 0, 2, 1);
        x.say(2, 60);
        dueChange(x, 1, 0, 3, 1);
        x.say(0, 0);
        dueChange(x, 1, 1, 3, 0);
        x.say(2, 0);
        dueChange(x, 1, 1, 2, 0);
    }

    private static void eachTimeCounts() {
        Check.sentence("let fewest BURST (each time counts) in n MINUTES");
        TalkCoopers x = Check.with("table 5;guest a at 0 wet 1 hot 0;guest b at 1 wet 2 hot 0;guest c at 2 wet 0 hot 0;hoop 2;"
                + "starts wet=1 and minute=0 or wet=2;spills 0;");
        dueChange(x, 1, 0, 2, 1);
        dueChange(x, 2, 1, 2, 1);
        dueChange(x, 30, 1, 2, 1);
        Check.due("burst(30)", x.burst(30), 31);
    }

    // ---- SEATING.

    private static void dueSeating(TalkCoopers x, int n, int bursts, int... seats) {
        Check.due("seating(" + n + ", NONE)", x.seating(n, TalkCoopers.NONE), bursts);
        for (int g = 0; g < seats.length; g++) {
            Check.due("seating(" + n + ", " + g + ")", x.seating(n, g), seats[g]);
        }
    }

    private static void seatsTakenNow() {
        Check.sentence("A SEATING for n MINUTES is a row of the SEATS that are taken now, GUEST by GUEST, each in one");
        TalkCoopers x = Check.with("table 9;guest a at 8 wet 0 hot 0;guest b at 4 wet 0 hot 0;hoop 0;");
        x.say(0, 60);
        x.say(1, 60);
        dueSeating(x, 1, 2, 4, 8);
        x.sit(0, 0);
        dueSeating(x, 1, 1, 0, 4);
        dueSeating(Check.with("table 3;starts all;"), 10, 0);
        dueSeating(Check.with(ONE + "starts all;hoop 1;"), 10, 10, 0);
    }

    private static void fewestBySeating() {
        Check.sentence("by which, if they sat so now, fewest BURST in n MINUTES");
        TalkCoopers x = Check.with("table 5;guest a at 0 wet 1 hot 0;guest b at 1 wet 2 hot 0;guest c at 2 wet 0 hot 0;hoop 2;"
                + "starts wet=1 and minute=0 or wet=2;spills 0;");
        dueSeating(x, 1, 1, 0, 2, 1);
        dueSeating(x, 2, 1, 0, 2, 1);
        dueSeating(x, 10, 1, 0, 2, 1);
        x.drive(2, 0);
        x.drive(0, 1);
        dueSeating(x, 1, 1, 0, 1, 2);
        dueSeating(x, 2, 1, 1, 0, 2);
    }

    private static void firstOfLikeRows() {
        Check.sentence("of like ones the first row");
        TalkCoopers x = Check.with("table 6;guest a at 5 wet 0 hot 0;guest b at 3 wet 0 hot 0;guest c at 1 wet 0 hot 0;hoop 3;");
        dueSeating(x, 10, 0, 1, 3, 5);
        x.say(2, 60);
        dueSeating(x, 10, 0, 1, 5, 3);
        x.say(1, 60);
        x.say(2, 50);
        dueSeating(x, 1, 0, 1, 3, 5);
        x.say(0, 60);
        x.say(1, 50);
        dueSeating(x, 1, 0, 3, 1, 5);
    }

    private static void seatingOfSeven() {
        Check.sentence("of like ones the first row");
        TalkCoopers x = Check.with(seven(9, 2, "starts hot=0;hoop 8;"));
        dueSeating(x, 1, 0, 8, 2, 3, 4, 5, 6, 7);
        x = Check.with(seven(9, 2, "starts hot=6;hoop 2;"));
        dueSeating(x, 1, 0, 3, 4, 5, 6, 7, 8, 2);
        x = Check.with(seven(7, 0, "starts all;hoop 3;"));
        dueSeating(x, 1, 6, 0, 1, 2, 3, 4, 5, 6);
    }

    /** Each BURSTS but where the one on his right has one SWELL less: in one row of all 5040, the last one. */
    private static void lastOfAllRows() {
        Check.sentence("by which, if they sat so now, fewest BURST in n MINUTES");
        TalkCoopers x = Check.with(seven(9, 0, "swells (right+1-swell)*(right+1-swell);starts swell>hot+1;"));
        for (int g = 0; g < 7; g++) {
            x.say(g, g + 1);
        }
        dueSeating(x, 1, 0, 6, 5, 4, 3, 2, 1, 0);
        Check.due("as they sit now", x.burst(1) > 0, true);
    }

    /** a bursts and spills on those beside him; b bursts by that, c does not. */
    private static void spillsBySeats() {
        Check.sentence("if they change SEATS now, let fewest BURST");
        TalkCoopers x = Check.with("table 7;guest a at 0 wet 0 hot 9;guest b at 1 wet 0 hot 1;guest c at 3 wet 0 hot 0;"
                + "swells 0;starts hot=9 or hot=1 and swell>0;");
        x.say(0, 60);
        dueChange(x, 1, 0, 2, 1);
        dueSeating(x, 1, 1, 0, 3, 1);
        x = Check.with("table 7;guest a at 0 wet 0 hot 0;guest b at 1 wet 0 hot 1;guest c at 3 wet 0 hot 2;"
                + "swells left+right;starts swell>50;");
        x.say(0, 30);
        x.say(1, 30);
        dueChange(x, 1, 0, 2, 0);
        dueSeating(x, 1, 0, 0, 3, 1);
    }

    // ---- TUN and ROW.

    private static TalkCoopers swollen(int... swells) {
        TalkCoopers x = Check.with(seven(7, 0, ""));
        for (int g = 0; g < swells.length; g++) {
            x.say(g, swells[g]);
        }
        return x;
    }

    private static void fewestTogether() {
        Check.sentence("A TUN of n are GUESTS whose SWELLS are n together: the fewest");
        TalkCoopers x = swollen(1, 2, 3, 6, 12, 24, 48);
        Check.due("one, not 1 and 2", x.tun(3), 4);
        Check.due("one, not 1, 2 and 3", x.tun(6), 8);
        Check.due("two, not 1, 2, 3 and 6", x.tun(9), 4 + 8);
        Check.due("all", x.tun(96), 127);
        Check.due("more than all", x.tun(97), -1);
        x = swollen(10, 20);
        Check.due("none is 15", x.tun(15), -1);
        Check.due("none is 9", x.tun(9), -1);
        Check.due("none is 11", x.tun(11), -1);
    }

    private static void leastBitsTogether() {
        Check.sentence("A TUN of n are GUESTS whose SWELLS are n together: the fewest; of like ones the least bits.");
        TalkCoopers x = swollen(5, 5, 5, 5, 5, 5, 5);
        for (int many = 1; many <= 7; many++) {
            Check.due("tun(" + 5 * many + ")", x.tun(5 * many), (1 << many) - 1);
        }
        x = swollen(1, 9, 8, 2, 3, 7, 0);
        Check.due("1 and 9, not 8 and 2", x.tun(10), 3);
        x = swollen(9, 3, 8, 2, 1, 7, 0);
        Check.due("9 and 1 are more bits than 8 and 2", x.tun(10), 4 + 8);
        Check.due("without those of 0", swollen(0, 0, 4, 0, 0, 0, 0).tun(4), 4);
    }

    private static void oneBehindTheOther() {
        Check.sentence("A ROW of GUESTS are SEATS taken, one behind the other in the ring: the most.");
        Check.due("seven of seven", Check.with(seven(7, 0, "")).row(), 7);
        Check.due("seven of nine, over SEAT 0", Check.with(seven(9, 6, "")).row(), 7);
        Check.due("seven of eight", Check.with(seven(8, 3, "")).row(), 7);
        Check.due("one", Check.with(ONE).row(), 1);
        TalkCoopers x = Check.with(seven(9, 0, ""));
        x.sit(3, 8);
        Check.due("8, 0, 1 and 2", x.row(), 4);
        x.sit(0, 3);
        Check.due("1 to 6", x.row(), 6);
    }

    // ---- what is HEARD.

    private static void minutesHeard() {
        Check.sentence("HEARD are rows of MINUTES AHEAD (0 .. 30), a SEAT, the SWELL of whoever is in it behind these "
                + "(0 .. 99; 255: nobody is in it)");
        TalkCoopers x = Check.with(ONE + "swells wet;starts not all;");
        Check.due("31", Check.hear(x, 31, 0, 0), -1);
        Check.due("255", Check.hear(x, 255, 0, 0), -1);
        x.say(0, 9);
        Check.due("0", Check.hear(x, 0, 0, 9), 1);
        Check.due("now", x.wets(0), 1023);
        Check.due("1", Check.hear(x, 1, 0, 9), 1);
        Check.due("behind one", x.wets(0), 1);
        Check.due("30", Check.hear(x, 30, 0, 69), 1);
        Check.due("behind thirty", x.wets(0), 1 << 2);
    }

    private static void seatsHeard() {
        Check.sentence("a SEAT, the SWELL of whoever is in it behind these");
        for (int seats = 3; seats <= 9; seats++) {
            TalkCoopers x = Check.with("table " + seats + ";guest a at " + (seats - 1) + " wet 0 hot 0;");
            Check.due("SEAT 0", Check.hear(x, 0, 0, 255), 1);
            Check.due("the last SEAT", Check.hear(x, 0, seats - 1, 0), 1);
            Check.due("is so", x.wets(0), 1023);
            Check.due("no SEAT", Check.hear(x, 0, seats, 255), -1);
            Check.due("no SEAT", Check.hear(x, 0, 255, 255), -1);
        }
    }

    private static void swellsHeard() {
        Check.sentence("(0 .. 99; 255: nobody is in it)");
        for (int swell = 0; swell <= 255; swell++) {
            boolean good = swell <= 99 || swell == 255;
            Check.due("hear " + swell, Check.hear(Check.with(ONE), 0, 0, swell), good ? 1 : -1);
        }
        TalkCoopers x = Check.with(ONE);
        x.say(0, 99);
        Check.hear(x, 0, 0, 99);
        Check.due("99", x.wets(0), 1023);
        Check.hear(x, 0, 0, 255);
        Check.due("somebody is in it", x.wets(0), 0);
        Check.hear(x, 0, 1, 255);
        Check.due("nobody is in it", x.wets(0), 1023);
        Check.hear(x, 0, 1, 0);
        Check.due("nobody is in it", x.wets(0), 0);
    }

    private static void allHeardIsSo() {
        Check.sentence("WETS are numbers (0 .. 9) as wet as which the talk of a told GUEST can be, so that all is so");
        TalkCoopers x = Check.with(ONE + "guest b at 1 wet 0 hot 0;swells wet/(2+minute);starts not all;");
        Check.hear(x, 1, 0, 3);
        Check.due("wet/2 is 3", x.wets(0), 1 << 6 | 1 << 7);
        Check.hear(x, 1, 0, 3, 2, 0, 5);
        Check.due("and wet/3 is 2", x.wets(0), 1 << 6 | 1 << 7);
        Check.hear(x, 3, 0, 7, 1, 0, 3);
        Check.due("in any order: wet/3 and wet/4 are 4 together", x.wets(0), 0);
        Check.hear(x, 1, 1, 1);
        Check.due("of b", x.wets(1), 1 << 2 | 1 << 3);
        Check.due("not of a", x.wets(0), 0);
        Check.hear(x, 1, 0, 3, 1, 0, 4);
        Check.due("both can't be", x.wets(0), 0);
    }

    private static void zeroToNine() {
        Check.sentence("WETS are numbers (0 .. 9)");
        TalkCoopers x = Check.with(ONE + "swells wet;");
        for (int wet = 0; wet <= 10; wet++) {
            Check.hear(x, 1, 0, wet);
            Check.due("as wet as " + wet, x.wets(0), wet < 10 ? 1 << wet : 0);
        }
    }

    // ---- TELLING.

    private static void dueTells(TalkCoopers x, int guest, int minutes, int seat, int left) {
        Check.due("tells(" + guest + ", 0)", x.tells(guest, 0), minutes);
        Check.due("tells(" + guest + ", 1)", x.tells(guest, 1), seat);
        Check.due("tells(" + guest + ", 2)", x.tells(guest, 2), left);
    }

    private static void thirtyAheadTell() {
        Check.sentence("TELLING is the number of MINUTES AHEAD (1 .. 30), the SEAT");
        for (int n = 1; n <= 31; n++) {
            // what a swells by depends on how wet his talk is in the n-th MINUTE for the first time
            TalkCoopers x = Check.with("table 3;guest a at 2 wet 0 hot 0;starts not all;swells max(0,minute+2-" + n + ")*wet;");
            dueTells(x, 0, n <= 30 ? n : 1, n <= 30 ? 2 : 0, n <= 30 ? 1 : 10);
        }
    }

    private static void mostLeftAreFewest() {
        Check.sentence("by the SWELL in which then, whatever it is, the most of these left are fewest");
        String quiet = "table 3;guest a at 2 wet 0 hot 0;starts not all;swells ";
        dueTells(Check.with(quiet + "min(wet,5);"), 0, 1, 2, 5);
        dueTells(Check.with(quiet + "wet/3;"), 0, 1, 2, 3);
        dueTells(Check.with(quiet + "wet/9;"), 0, 1, 2, 9);
        dueTells(Check.with(quiet + "wet/(5-min(4,minute*4));"), 0, 2, 2, 1);
        TalkCoopers x = Check.with(quiet + "wet/2;");
        dueTells(x, 0, 1, 2, 2);
        Check.hear(x, 1, 2, 3);
        dueTells(x, 0, 1, 0, 2);
        x = Check.with(quiet + "wet/3;");
        Check.hear(x, 1, 2, 3);
        dueTells(x, 0, 1, 0, 1);
        x = Check.with(quiet + "wet+1;");
        dueTells(x, 0, 1, 2, 1);
        Check.hear(x, 1, 2, 1);
        dueTells(x, 0, 1, 0, 1);
        // 0 and 1 are like, 6 to 9 are, too
        x = Check.with(quiet + "5-max(0,wet-1);");
        dueTells(x, 0, 1, 2, 4);
        Check.hear(x, 1, 2, 5);
        dueTells(x, 0, 1, 0, 2);
    }

    private static void firstOfLikeTellings() {
        Check.sentence("of like ones the first, MINUTE by MINUTE, SEAT by SEAT");
        String three = "table 4;guest a at 2 wet 0 hot 0;guest b at 1 wet 0 hot 0;guest c at 3 wet 0 hot 0;starts not all;swells ";
        dueTells(Check.with(three + "wet;"), 0, 1, 2, 1);
        dueTells(Check.with(three + "wet;"), 2, 1, 3, 1);
        dueTells(Check.with(three + "min(1,minute)*(left+right)+max(0,1-minute)*wet;"), 0, 1, 2, 1);
        dueTells(Check.with(three + "min(1,minute)*(left+right)+max(0,1-minute)*wet/9;"), 0, 1, 2, 9);
        // how wet a's talk is is told by b and c alone, on both of whom he spills
        TalkCoopers x = Check.with("table 4;guest c at 3 wet 0 hot 0;guest a at 2 wet 0 hot 0;guest b at 1 wet 0 hot 0;"
                + "swells 0;starts wet>4 and minute=0;spills 7;");
        dueTells(x, 1, 1, 1, 5);
    }

    private static void alwaysLike() {
        Check.sentence("(in one in which none is it is always like)");
        TalkCoopers x = Check.with("table 3;guest a at 2 wet 0 hot 0;swells hot;");
        dueTells(x, 0, 1, 0, 10);
        x = Check.with("table 3;guest a at 0 wet 0 hot 0;swells hot;");
        dueTells(x, 0, 1, 0, 10);
        x = Check.with("table 9;guest a at 8 wet 0 hot 0;swells wet;");
        dueTells(x, 0, 1, 8, 1);
    }
}

import java.math.BigInteger;

/** Terms II, sentence by sentence: the edges of SEATS, MINUTES, the SEED, what is KEPT, ACTS. */
public final class TermsTwoTest {
    private static final String ONE = "table 5;guest a at 0 wet 0 hot 0;";
    private static final String TWO = ONE + "guest b at 1 wet 0 hot 0;";
    private static final int[] SEEDS = {0, 1, 2, 63, 64, 12345, 1 << 30, Integer.MAX_VALUE - 1, Integer.MAX_VALUE};

    public static void main(String[] args) {
        ringOfSpills();
        ringOfLoads();
        atFirst();
        loadWithoutGuests();
        belowAndAbove();
        allAtOnce();
        aheadOfTheMinute();
        hoopHolds();
        burstIsNought();
        guestByGuest();
        seatLessThenMore();
        noneBeside();
        spiltBelowAndAbove();
        oneMinuteMore();
        belowToast();
        toastUpTo99();
        drawOfGuests();
        drawWithoutGuests();
        drawWithoutToast();
        lastFortyKept();
        keptHisSwellThen();
        whatIsAnAct();
        lastTwentyActs();
        Check.close("TermsTwoTest");
    }

    private static String twoEnds(int seats) {
        return "table " + seats + ";guest a at 0 wet 0 hot 0;guest b at " + (seats - 1) + " wet 0 hot 0;swells 0;";
    }

    private static void ringOfSpills() {
        Check.sentence("SEATS are in a ring: behind the last one is SEAT 0.");
        for (int seats = 3; seats <= 9; seats++) {
            TalkCoopers x = Check.with(twoEnds(seats));
            x.say(0, 60);
            Check.due("from SEAT 0 over the last one", x.later(1, 1), 30);
            x.say(0, 0);
            x.say(1, 80);
            Check.due("from the last one over SEAT 0", x.later(0, 1), 40);
            Check.due("row", x.row(), 2);
        }
    }

    private static void ringOfLoads() {
        Check.sentence("SEATS are in a ring: behind the last one is SEAT 0.");
        for (int seats = 3; seats <= 9; seats++) {
            TalkCoopers x = Check.with(twoEnds(seats));
            x.say(0, 7);
            x.say(1, 20);
            Check.due("the load on SEAT 0", x.seat(0, 2), 27);
            Check.due("the load on the last SEAT", x.seat(seats - 1, 2), 27);
            Check.due("the load on SEAT 1", x.seat(1, 2), seats == 3 ? 27 : 7);
            Check.due("the load on the last but one", x.seat(seats - 2, 2), seats == 3 ? 27 : 20);
            for (int s = 2; s < seats - 2; s++) {
                Check.due("the load on SEAT " + s, x.seat(s, 2), 0);
            }
        }
    }

    private static void atFirst() {
        Check.sentence("It is MINUTE 0 at first; the SWELL of each GUEST is 0.");
        TalkCoopers x = Check.with("table 9;guest a at 3 wet 9 hot 9;guest b at 8 wet 9 hot 9;");
        Check.due("MINUTE", x.has(3), 0);
        Check.due("all SWELLS", x.has(4), 0);
        Check.due("a", x.guest(0, 3), 0);
        Check.due("b", x.guest(1, 3), 0);
        Check.dueAsk(x, "most swell+minute", 0);
    }

    private static void loadWithoutGuests() {
        Check.sentence("The LOAD of a SEAT is the SWELL of whoever is in it, and of those in the SEATS on both its sides, "
                + "together (0 of one in which none is).");
        TalkCoopers x = Check.with("table 7;guest a at 1 wet 0 hot 0;guest b at 2 wet 0 hot 0;guest c at 3 wet 0 hot 0;");
        x.say(0, 10);
        x.say(1, 20);
        x.say(2, 40);
        int[] due = {10, 30, 70, 60, 40, 0, 0};
        for (int s = 0; s < 7; s++) {
            Check.due("the load on SEAT " + s, x.seat(s, 2), due[s]);
        }
        x.say(0, 99);
        x.say(1, 99);
        x.say(2, 99);
        Check.due("three times 99", x.seat(2, 2), 297);
    }

    private static void dueSwell(String swells, int from, int due) {
        TalkCoopers x = Check.with(ONE + "starts not all;swells " + swells + ";");
        x.say(0, from);
        Check.due(from + " and " + swells, x.later(0, 1), due);
    }

    private static void belowAndAbove() {
        Check.sentence("0 .. 99 (below is 0, above 99)");
        dueSwell("1", 98, 99);
        dueSwell("1", 99, 99);
        dueSwell("99", 0, 99);
        dueSwell("100", 0, 99);
        dueSwell("1000*1000", 0, 99);
        dueSwell("1000*1000", 99, 99);
        dueSwell("0-1", 1, 0);
        dueSwell("0-1", 0, 0);
        dueSwell("0-99", 99, 0);
        dueSwell("0-98", 99, 1);
        dueSwell("0-100", 99, 0);
        dueSwell("0-1000*1000", 99, 0);
        dueSwell("0", 99, 99);
    }

    private static void allAtOnce() {
        Check.sentence("FIRST the SWELL of each GUEST is what it was and the SUM of swells by what is so ahead of it, all at once");
        TalkCoopers x = Check.with(TWO + "starts not all;swells left+right;");
        x.say(0, 3);
        x.say(1, 5);
        Check.due("a", x.later(0, 1), 3 + 5);
        Check.due("b by what a had", x.later(1, 1), 5 + 3);
        x = Check.with("table 3;guest a at 1 wet 0 hot 0;guest b at 2 wet 0 hot 0;guest c at 0 wet 0 hot 0;starts not all;swells left;");
        x.say(0, 1);
        x.say(1, 10);
        x.say(2, 40);
        Check.due("a", x.later(0, 1), 1 + 40);
        Check.due("b", x.later(1, 1), 10 + 1);
        Check.due("c", x.later(2, 1), 40 + 10);
    }

    private static void aheadOfTheMinute() {
        Check.sentence("by what is so ahead of it");
        TalkCoopers x = Check.with(ONE + "starts not all;swells minute;");
        int[] due = {0, 0, 1, 3, 6, 10};
        for (int n = 0; n < due.length; n++) {
            Check.due("behind " + n, x.later(0, n), due[n]);
        }
    }

    private static void hoopHolds() {
        Check.sentence("if there is no HOOP at his SEAT, and the TEST of starts holds by what is so then, he BURSTS");
        TalkCoopers x = Check.with(TWO + "swells 0;spills 0;starts all;hoop 0;");
        Check.due("a, with a hoop", x.bursts(0), -1);
        Check.due("b, without", x.bursts(1), 0);
        x.drive(0, 0);
        x.drive(1, 1);
        Check.due("a, without", x.bursts(0), 0);
        Check.due("b, with a hoop", x.bursts(1), -1);
        x = Check.with(TWO + "swells 0;spills 0;starts not all;");
        Check.due("without a hoop, but the TEST does not hold", x.bursts(0), -1);
        x = Check.with(TWO + "swells 1;starts swell=1 and minute=0;");
        Check.due("by the SWELL behind FIRST", x.bursts(0), 0);
    }

    private static void burstIsNought() {
        Check.sentence("he BURSTS: his SWELL is 0");
        TalkCoopers x = Check.with(TWO + "swells 0;spills swell;starts minute=0;");
        Check.due("of 0 too", x.burst(1), 2);
        x.say(0, 99);
        Check.due("minutes(1)", x.minutes(1), 2);
        Check.due("a", x.guest(0, 3), 0);
        Check.due("b", x.guest(1, 3), 0);
    }

    private static void guestByGuest() {
        Check.sentence("THEN GUEST by GUEST");
        String two = "table 5;guest a at 3 wet 0 hot 0;guest b at 2 wet 0 hot 0;swells 0;spills 30;";
        TalkCoopers x = Check.with(two);
        x.say(0, 60);
        x.say(1, 30);
        Check.due("a bursts over b, who bursts over a", x.burst(1), 2);
        Check.due("a", x.later(0, 1), 30);
        Check.due("b", x.later(1, 1), 0);
        x = Check.with(two);
        x.say(0, 30);
        x.say(1, 60);
        Check.due("b bursts over a, whose turn is over", x.burst(1), 1);
        Check.due("a", x.later(0, 1), 60);
        Check.due("a bursts in the next one", x.bursts(0), 1);
    }

    private static void seatLessThenMore() {
        Check.sentence("the SWELL of the GUEST in the SEAT less by one, then that of the one in the SEAT more by one, "
                + "if there is one, is more by the SUM of spills by what is so then");
        TalkCoopers x = Check.with("table 4;guest a at 0 wet 1 hot 2;guest b at 3 wet 3 hot 4;guest c at 1 wet 5 hot 6;guest d at 2 wet 7 hot 8;"
                + "swells 0;starts swell=50 and minute=1;spills wet*10+hot+swell+minute;");
        x.say(0, 50);
        x.say(1, 2);
        x.say(2, 3);
        Check.due("b, in the SEAT less by one", x.later(1, 2), 2 + 30 + 4 + 2 + 1);
        Check.due("c, in the SEAT more by one", x.later(2, 2), 3 + 50 + 6 + 3 + 1);
        Check.due("d, two SEATS on", x.later(3, 2), 0);
        Check.due("a", x.later(0, 2), 0);
    }

    private static void noneBeside() {
        Check.sentence("if there is one");
        TalkCoopers x = Check.with("table 3;guest a at 1 wet 0 hot 0;");
        x.say(0, 60);
        Check.due("alone", x.minutes(1), 1);
        Check.due("all SWELLS", x.has(4), 0);
        for (int beside = 0; beside <= 2; beside += 2) {
            x = Check.with("table 4;guest a at 1 wet 0 hot 0;guest b at " + beside + " wet 0 hot 0;guest c at 3 wet 0 hot 0;");
            x.say(0, 60);
            Check.due("one side alone", x.minutes(1), 1);
            Check.due("b", x.guest(1, 3), 30);
            Check.due("c", x.guest(2, 3), 0);
        }
    }

    private static void dueSpilt(String spills, int on, int due) {
        TalkCoopers x = Check.with(TWO + "swells 0;starts swell=51;spills " + spills + ";");
        x.say(0, 51);
        x.say(1, on);
        Check.due(spills + " on " + on, x.later(1, 1), due);
    }

    private static void spiltBelowAndAbove() {
        Check.sentence("the SUM 0 .. 99 (below is 0, above 99), all together 99 at most");
        dueSpilt("0", 20, 20);
        dueSpilt("0-1", 20, 20);
        dueSpilt("0-1000*1000", 20, 20);
        dueSpilt("1", 20, 21);
        dueSpilt("79", 20, 99);
        dueSpilt("80", 20, 99);
        dueSpilt("98", 0, 98);
        dueSpilt("99", 0, 99);
        dueSpilt("100", 0, 99);
        dueSpilt("1000*1000", 0, 99);
        dueSpilt("1000*1000", 99, 99);
        dueSpilt("1", 99, 99);
        dueSpilt("0-5", 0, 0);
    }

    private static void oneMinuteMore() {
        Check.sentence("The MINUTE is one more (999 at most).");
        TalkCoopers x = Check.with("table 3;");
        x.minutes(1);
        Check.due("MINUTE", x.has(3), 1);
        Check.due("on at 998", Check.on(x, Check.withCheck(3, 230, 0, 0, 0)), true);
        x.minutes(1);
        Check.due("MINUTE", x.has(3), 999);
        Check.due("no more", x.minutes(1), -1);
        Check.due("no more by the seed", x.chance(1), -1);
        Check.due("MINUTE", x.has(3), 999);
    }

    // ---- by the SEED.

    private static BigInteger next(BigInteger x) {
        return x.multiply(BigInteger.valueOf(1103515245)).add(BigInteger.valueOf(12345)).mod(BigInteger.ONE.shiftLeft(31));
    }

    private static int drawn(BigInteger x, int m) {
        return x.divide(BigInteger.valueOf(64)).mod(BigInteger.valueOf(m)).intValue();
    }

    private static String quiet(int guests, int toast) {
        StringBuilder b = new StringBuilder("table 9;swells 0;starts not all;toast " + toast + ";");
        for (int g = 0; g < guests; g++) {
            b.append("guest ").append((char) ('a' + g)).append(" at ").append(g).append(" wet 0 hot 0;");
        }
        return b.toString();
    }

    private static void belowToast() {
        Check.sentence("BY THE SEED a MINUTE begins with a DRAW of 100: below toast, if there are GUESTS, a DRAW of these");
        for (int seed : SEEDS) {
            int hundredth = drawn(next(BigInteger.valueOf(seed)), 100);
            TalkCoopers x = Check.with(quiet(1, hundredth));
            x.seed(seed);
            Check.due("as much as toast", x.chance(1), 0);
            x = Check.with(quiet(1, hundredth + 1));
            x.seed(seed);
            Check.due("one below toast", x.chance(1), 1);
        }
    }

    private static void toastUpTo99() {
        Check.sentence("his SWELL is 9 more (99 at most)");
        int[] from = {0, 89, 90, 91, 98, 99};
        int[] due = {9, 98, 99, 99, 99, 99};
        for (int k = 0; k < from.length; k++) {
            TalkCoopers x = Check.with(quiet(1, 100));
            x.say(0, from[k]);
            Check.due("a toast", x.chance(1), 1);
            Check.due("upon " + from[k], x.guest(0, 3), due[k]);
        }
    }

    private static void drawOfGuests() {
        Check.sentence("A DRAW of m: x (the seed) becomes (1103515245 x + 12345) mod 2 to the 31; floor(x / 64) mod m.");
        for (int seed : SEEDS) {
            for (int guests = 1; guests <= 7; guests++) {
                TalkCoopers x = Check.with(quiet(guests, 60));
                x.seed(seed);
                dueChance(x, BigInteger.valueOf(seed), guests, 60, 9);
            }
        }
    }

    /** By the seed, which is this now, so many MINUTES answer what the DRAWS say. */
    private static void dueChance(TalkCoopers x, BigInteger seed, int guests, int toast, int minutes) {
        int[] swells = new int[guests];
        int toasts = 0;
        BigInteger s = seed;
        for (int k = 0; k < minutes; k++) {
            s = next(s);
            if (drawn(s, 100) < toast) {
                s = next(s);
                swells[drawn(s, guests)] += 9;
                toasts++;
            }
        }
        Check.due("toasts", x.chance(minutes), toasts);
        for (int g = 0; g < guests; g++) {
            Check.due("SWELL of " + g, x.guest(g, 3), swells[g]);
        }
    }

    private static void drawWithoutGuests() {
        Check.sentence("if there are GUESTS, a DRAW of these");
        TalkCoopers x = Check.with(quiet(0, 100));
        x.seed(77);
        Check.due("no toast", x.chance(3), 0);
        Check.due("MINUTE", x.has(3), 3);
        Check.table(x, quiet(5, 100));
        dueChance(x, next(next(next(BigInteger.valueOf(77)))), 5, 100, 7);
    }

    private static void drawWithoutToast() {
        Check.sentence("BY THE SEED a MINUTE begins with a DRAW of 100");
        TalkCoopers x = Check.with(quiet(3, 0));
        x.seed(78);
        Check.due("no toast", x.chance(2), 0);
        Check.table(x, quiet(5, 100));
        dueChance(x, next(next(BigInteger.valueOf(78))), 5, 100, 7);
    }

    // ---- what is KEPT, ACTS.

    private static void lastFortyKept() {
        Check.sentence("KEPT is each that BURSTS: MINUTE, GUEST, SEAT, his SWELL then; the last 40 are told.");
        TalkCoopers x = Check.with(ONE + "swells 1;starts all;");
        x.minutes(39);
        Check.due("39", x.has(5), 39);
        Check.due("the oldest", x.kept(0, 0), 0);
        x.minutes(1);
        Check.due("40", x.has(5), 40);
        Check.due("the oldest", x.kept(0, 0), 0);
        Check.due("the latest", x.kept(39, 0), 39);
        x.minutes(1);
        Check.due("40 of 41", x.has(5), 40);
        Check.due("the oldest told", x.kept(0, 0), 1);
        Check.due("the latest", x.kept(39, 0), 40);
        Check.due("behind it", x.kept(40, 0), -1);
        x.minutes(100);
        Check.due("the oldest told", x.kept(0, 0), 101);
        Check.due("the latest", x.kept(39, 0), 140);
    }

    private static void keptHisSwellThen() {
        Check.sentence("MINUTE, GUEST, SEAT, his SWELL then");
        TalkCoopers x = Check.with("table 9;guest a at 8 wet 0 hot 0;guest b at 0 wet 0 hot 0;swells 1;starts swell>99-1;spills 99;");
        x.say(0, 98);
        x.minutes(1);
        int[][] due = {{0, 0, 8, 99}, {0, 1, 0, 99}};
        for (int k = 0; k < 2; k++) {
            for (int what = 0; what < 4; what++) {
                Check.due("kept(" + k + ", " + what + ")", x.kept(k, what), due[k][what]);
            }
        }
        Check.due("no third one", x.has(5), 2);
    }

    private static void whatIsAnAct() {
        Check.sentence("ACTS: a HOOP is driven on a SEAT, or taken from it; a GUEST goes to a SEAT in which none is; "
                + "a GUEST has another SWELL; MINUTES; MINUTES by the seed.");
        TalkCoopers x = Check.with(TWO);
        x.drive(2, 1);
        Check.due("driven", x.has(7), 1);
        x.drive(2, 0);
        Check.due("taken", x.has(7), 2);
        x.sit(0, 4);
        Check.due("goes", x.has(7), 3);
        x.say(0, 4);
        Check.due("another SWELL", x.has(7), 4);
        x.minutes(100);
        Check.due("MINUTES", x.has(7), 5);
        x.chance(100);
        Check.due("MINUTES by the seed", x.has(7), 6);
        x.seed(5);
        x.image();
        Check.hear(x, 0, 0, 0);
        Check.ask(x, "total 1");
        x.burst(5);
        Check.due("no ACT", x.has(7), 6);
    }

    private static void lastTwentyActs() {
        Check.sentence("The last 20 can be undone.");
        for (int acts = 19; acts <= 21; acts++) {
            TalkCoopers x = Check.with(ONE);
            for (int k = 1; k <= acts; k++) {
                x.say(0, k);
            }
            Check.due("has(7)", x.has(7), Math.min(acts, 20));
            for (int k = 0; k < Math.min(acts, 20); k++) {
                Check.due("undo", x.undo(), true);
            }
            Check.due("one more", x.undo(), false);
            Check.due("what is left", x.guest(0, 3), acts == 21 ? 1 : 0);
        }
    }
}

/** Promises 14 (hoops), 15 (change), 16 (seating), 17 (tun) and 18 (row). */
public final class PlansTest {
    private static final String TWO = "table 5;guest ann at 0 wet 9 hot 2;guest bo at 1 wet 4 hot 1;";

    public static void main(String[] args) {
        hoops();
        hoopsOfLikeOnes();
        change();
        changeOfLikeOnes();
        seating();
        seatingOfLikeOnes();
        asThingsStand();
        withoutGuests();
        lastMinutes();
        tun();
        row();
        Check.close("PlansTest");
    }

    private static void hoops() {
        TalkCoopers x = Check.with(TWO + "hoop 0;hoop 1;hoop 4;");
        Check.due("hoops(1)", x.hoops(1), 0);
        Check.due("hoops(5)", x.hoops(5), 0);
        Check.due("hoops(6)", x.hoops(6), 1);
        Check.due("hoops(12)", x.hoops(12), 1);
        Check.due("hoops(13)", x.hoops(13), 3);
        Check.due("hoops(30)", x.hoops(30), 3);
        Check.due("hoops(31)", x.hoops(31), -1);
        Check.due("hoops(0)", x.hoops(0), -1);
        Check.due("hoops(-1)", x.hoops(-1), -1);
        Check.due("the hoops stay", x.has(2), 3);
    }

    /** First two who both burst by the load of both; then three of whom one hoop is enough. */
    private static void hoopsOfLikeOnes() {
        TalkCoopers x = Check.with("table 4;guest a at 2 wet 0 hot 0;guest b at 1 wet 0 hot 0;swells 0;"
                + "starts load>50;spills 0;");
        x.say(0, 30);
        x.say(1, 30);
        Check.due("both must hold", x.hoops(1), 6);
        x = Check.with("table 4;guest a at 2 wet 0 hot 0;guest b at 1 wet 0 hot 0;guest c at 0 wet 0 hot 0;"
                + "swells 0-hooped*9;starts load=60;spills 0;");
        x.say(0, 20);
        x.say(1, 20);
        x.say(2, 20);
        // each one's hoop lets him swell less; b's load alone is 60 of all three
        Check.due("least bits of one hoop", x.hoops(1), 1);
    }

    private static void change() {
        TalkCoopers x = Check.with("table 5;guest ann at 0 wet 9 hot 2;guest bo at 3 wet 4 hot 1;hoop 3;");
        int[] due = {0, 1, 0};
        for (int what = 0; what < 3; what++) {
            Check.due("change(6, " + what + ")", x.change(6, what), due[what]);
            Check.due("change(5, " + what + ")", x.change(5, what), what < 2 ? -1 : 0);
        }
        Check.due("change(6, 3)", x.change(6, 3), -1);
        Check.due("change(6, -1)", x.change(6, -1), -1);
        Check.due("change(0, 2)", x.change(0, 2), -1);
        Check.due("change(30, 2)", x.change(30, 2) >= 0, true);
        Check.due("change(31, 2)", x.change(31, 2), -1);
        Check.due("the seats stay", x.guest(0, 0), 0);
    }

    /** a or b may change with c or d, who have hoops at their SEATS; a and c are the first pair that helps. */
    private static void changeOfLikeOnes() {
        TalkCoopers x = Check.with("table 9;guest a at 1 wet 0 hot 0;guest b at 3 wet 0 hot 0;guest c at 5 wet 0 hot 0;"
                + "guest d at 7 wet 0 hot 0;hoop 5;hoop 7;swells 0;spills 0;");
        x.say(0, 60);
        x.say(1, 60);
        Check.due("change(1, 0)", x.change(1, 0), 0);
        Check.due("change(1, 1)", x.change(1, 1), 2);
        Check.due("change(1, 2)", x.change(1, 2), 1);
        x.say(0, 10);
        Check.due("change(1, 0)", x.change(1, 0), 1);
        Check.due("change(1, 1)", x.change(1, 1), 2);
        Check.due("change(1, 2)", x.change(1, 2), 0);
        x.say(1, 10);
        Check.due("none is first", x.change(1, 0), -1);
        Check.due("none is first", x.change(1, 1), -1);
        Check.due("none is first", x.change(1, 2), 0);
    }

    private static void seating() {
        TalkCoopers x = Check.with("table 5;guest ann at 0 wet 9 hot 2;guest bo at 3 wet 4 hot 1;hoop 3;");
        Check.due("seating(6, -1)", x.seating(6, -1), 0);
        Check.due("seating(6, 0)", x.seating(6, 0), 3);
        Check.due("seating(6, 1)", x.seating(6, 1), 0);
        Check.due("seating(5, 0)", x.seating(5, 0), 0);
        Check.due("seating(5, 1)", x.seating(5, 1), 3);
        Check.due("seating(10, -1)", x.seating(10, -1), 0);
        Check.due("seating(11, -1)", x.seating(11, -1), -1);
        Check.due("seating(0, -1)", x.seating(0, -1), -1);
        Check.due("seating(6, 2)", x.seating(6, 2), -1);
        Check.due("seating(6, -2)", x.seating(6, -2), -1);
        Check.due("the seats stay", x.guest(0, 0), 0);
    }

    /** Seven GUESTS; the last two alone would burst, and SEATS 2 and 6 alone have hoops. */
    private static void seatingOfLikeOnes() {
        StringBuilder b = new StringBuilder("table 9;hoop 2;hoop 6;swells 0;spills 0;");
        for (int g = 0; g < 7; g++) {
            b.append("guest ").append((char) ('a' + g)).append(" at ").append(8 - g).append(" wet 0 hot 0;");
        }
        TalkCoopers x = Check.with(b.toString());
        int[] first = {2, 3, 4, 5, 6, 7, 8};
        for (int g = 0; g < 7; g++) {
            Check.due("the first row", x.seating(1, g), first[g]);
        }
        x.say(5, 60);
        x.say(6, 60);
        int[] due = {3, 4, 5, 7, 8, 2, 6};
        for (int g = 0; g < 7; g++) {
            Check.due("seating(1, " + g + ")", x.seating(1, g), due[g]);
        }
        Check.due("seating(1, -1)", x.seating(1, -1), 0);
        x.say(4, 60);
        Check.due("seating(1, -1)", x.seating(1, -1), 1);
        int[] less = {3, 4, 5, 7, 2, 6, 8};
        for (int g = 0; g < 7; g++) {
            Check.due("seating(1, " + g + ")", x.seating(1, g), less[g]);
        }
    }

    /** What was told once for so many MINUTES is told anew when something has changed. */
    private static void asThingsStand() {
        TalkCoopers x = Check.with("table 5;guest ann at 0 wet 9 hot 2;guest bo at 3 wet 4 hot 1;hoop 3;");
        told(x, 1, 0, 3, 0);
        x.drive(3, 0);
        told(x, 2, -1, 0, 1);
        x.undo();
        told(x, 3, 0, 3, 0);
        x.sit(1, 4);
        told(x, 4, -1, 0, 2);
        x.undo();
        x.say(0, 9);
        told(x, 5, 0, 3, 0);
        x.say(0, 6);
        x.minutes(5);
        told(x, 6, 0, 3, 0);
        Check.due("on", Check.on(x, Check.withCheck(0, 0, 0, 0, 0, 0, 0, 0, 0, 3, 0)), true);
        told(x, 7, -1, 0, 1);
        Check.table(x, "table 5;guest ann at 0 wet 9 hot 2;guest bo at 3 wet 4 hot 1;hoop 3;");
        told(x, 8, 0, 3, 0);
        Check.table(x, "table 5;guest ann at 0 wet 8 hot 2;guest bo at 3 wet 4 hot 1;hoop 3;");
        told(x, 9, -1, 0, 0);
        x.chance(1);
        told(x, 10, 0, 3, 0);
    }

    private static void told(TalkCoopers x, int step, int less, int seat, int bursts) {
        Check.due("step " + step + ": change(6, 0)", x.change(6, 0), less);
        Check.due("step " + step + ": seating(6, 0)", x.seating(6, 0), seat);
        Check.due("step " + step + ": seating(6, -1)", x.seating(6, -1), bursts);
        Check.due("step " + step + ": change(6, 2)", x.change(6, 2), bursts);
    }

    private static void withoutGuests() {
        TalkCoopers x = Check.with("table 3;hoop 1;");
        Check.due("hoops", x.hoops(30), 0);
        Check.due("change", x.change(30, 0), -1);
        Check.due("change", x.change(30, 1), -1);
        Check.due("change", x.change(30, 2), 0);
        Check.due("seating", x.seating(10, -1), 0);
        Check.due("seating", x.seating(10, 0), -1);
        Check.due("tun", x.tun(1), -1);
    }

    private static void lastMinutes() {
        TalkCoopers x = Check.with("table 3;guest a at 0 wet 0 hot 0;");
        Check.due("on", Check.on(x, Check.withCheck(3, 230, 0, 0, 0, 0, 7)), true);
        Check.due("hoops(1)", x.hoops(1), 0);
        Check.due("hoops(2)", x.hoops(2), -1);
        Check.due("change(1)", x.change(1, 2), 0);
        Check.due("change(2)", x.change(2, 2), -1);
        Check.due("seating(1)", x.seating(1, 0), 0);
        Check.due("seating(2)", x.seating(2, 0), -1);
    }

    private static void tun() {
        StringBuilder b = new StringBuilder("table 9;");
        for (int g = 0; g < 7; g++) {
            b.append("guest ").append((char) ('a' + g)).append(" at ").append(g).append(" wet 0 hot 0;");
        }
        TalkCoopers x = Check.with(b.toString());
        Check.due("tun(1)", x.tun(1), -1);
        int[] swells = {5, 7, 12, 7, 0, 19, 24};
        for (int g = 0; g < 7; g++) {
            x.say(g, swells[g]);
        }
        Check.due("tun(5)", x.tun(5), 1);
        Check.due("tun(12): the fewest", x.tun(12), 4);
        Check.due("tun(7): the least bits", x.tun(7), 2);
        Check.due("tun(24)", x.tun(24), 64);
        Check.due("tun(26): 7 and 19, the least bits", x.tun(26), 2 + 32);
        Check.due("tun(74): all", x.tun(74), 127 - 16);
        Check.due("tun(75)", x.tun(75), -1);
        Check.due("tun(1)", x.tun(1), -1);
        x.say(4, 1);
        Check.due("tun(1)", x.tun(1), 16);
        Check.due("tun(0)", x.tun(0), -1);
        Check.due("tun(-5)", x.tun(-5), -1);
        for (int g = 0; g < 7; g++) {
            x.say(g, 99);
        }
        Check.due("tun(693)", x.tun(693), 127);
        Check.due("tun(694)", x.tun(694), -1);
        Check.due("tun(198)", x.tun(198), 3);
    }

    private static void row() {
        Check.due("row", Check.with("table 3;").row(), 0);
        TalkCoopers x = Check.with("table 6;guest a at 5 wet 0 hot 0;guest b at 0 wet 0 hot 0;guest c at 2 wet 0 hot 0;");
        Check.due("row over SEAT 0", x.row(), 2);
        x.sit(2, 1);
        Check.due("row", x.row(), 3);
        x.sit(1, 3);
        Check.due("row", x.row(), 1);
        x.sit(0, 2);
        Check.due("row", x.row(), 3);
        x = Check.with("table 3;guest a at 2 wet 0 hot 0;guest b at 0 wet 0 hot 0;guest c at 1 wet 0 hot 0;");
        Check.due("row of all", x.row(), 3);
    }
}

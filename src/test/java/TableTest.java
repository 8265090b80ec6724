/** Promises 4 (table without a FAULT), 6 (has), 7 (letter), 8 (guest) and 9 (seat). */
public final class TableTest {
    private static final String TWO =
            "table 5;guest ann at 0 wet 9 hot 2;guest bo at 1 wet 4 hot 1;hoop 3;";

    public static void main(String[] args) {
        statements();
        blanksAndNames();
        has();
        letters();
        guests();
        seats();
        newTableForgets();
        tableUponTable();
        faultyTableKeepsAll();
        Check.close("TableTest");
    }

    private static void statements() {
        Check.dueTable("table 3;", 1);
        Check.dueTable("table 9;", 1);
        Check.dueTable("table 0009;", 1);
        Check.dueTable(TWO, 4);
        Check.dueTable("table 3;swells 1;starts all;spills 2;toast 0;toast 100;hoop 0;hoop 1;hoop 2;", 9);
        Check.dueTable("table 3;" + "toast 1;".repeat(59), 60);
        StringBuilder seven = new StringBuilder("table 9;");
        for (int g = 0; g < 7; g++) {
            seven.append("guest ").append((char) ('a' + g)).append(" at ").append(8 - g).append(" wet 0 hot 9;");
        }
        Check.dueTable(seven.toString(), 8);
    }

    private static void blanksAndNames() {
        Check.dueTable(" \n table\n3 \n;\n guest a at 0 wet 1 hot 1\n; \n", 2);
        Check.dueTable("table 3;swells(wet)+min(1,2);starts[all]and not[swell>1];spills(size)/2;", 4);
        Check.dueTable("table 3;guest abcdef at 0 wet 1 hot 1;guest first at 1 wet 1 hot 1;"
                + "guest tables at 2 wet 1 hot 1;", 4);
        Check.dueTable("table 3;guest total at 0 wet 1 hot 1;guest ab at 1 wet 1 hot 1;guest a at 2 wet 1 hot 1;", 4);
    }

    private static void has() {
        TalkCoopers x = Check.with(TWO);
        x.say(0, 30);
        x.say(1, 12);
        x.minutes(2);
        Check.hear(x, 0, 0, 255, 1, 1, 3);
        int[] due = {5, 2, 1, 2, 68, 0, 2, 3};
        for (int what = 0; what < 8; what++) {
            Check.due("has(" + what + ")", x.has(what), due[what]);
        }
        Check.due("has(-1)", x.has(-1), -1);
        Check.due("has(8)", x.has(8), -1);
    }

    private static void letters() {
        TalkCoopers x = Check.with("table 3;guest az at 0 wet 1 hot 1;guest mnopqr at 2 wet 1 hot 1;");
        int[] az = {1, 26, 0, 0, 0, 0};
        int[] six = {13, 14, 15, 16, 17, 18};
        for (int k = 0; k < 6; k++) {
            Check.due("letter(0, " + k + ")", x.letter(0, k), az[k]);
            Check.due("letter(1, " + k + ")", x.letter(1, k), six[k]);
        }
        Check.due("letter(0, 6)", x.letter(0, 6), -1);
        Check.due("letter(0, -1)", x.letter(0, -1), -1);
        Check.due("letter(2, 0)", x.letter(2, 0), -1);
        Check.due("letter(-1, 0)", x.letter(-1, 0), -1);
    }

    private static void guests() {
        TalkCoopers x = Check.with(TWO);
        x.say(1, 77);
        int[][] due = {{0, 9, 2, 0}, {1, 4, 1, 77}};
        for (int g = 0; g < 2; g++) {
            for (int what = 0; what < 4; what++) {
                Check.due("guest(" + g + ", " + what + ")", x.guest(g, what), due[g][what]);
            }
            Check.due("guest(g, 4)", x.guest(g, 4), -1);
            Check.due("guest(g, -1)", x.guest(g, -1), -1);
        }
        Check.due("guest(2, 0)", x.guest(2, 0), -1);
        Check.due("guest(-1, 0)", x.guest(-1, 0), -1);
    }

    private static void seats() {
        TalkCoopers x = Check.with(TWO);
        x.say(0, 30);
        x.say(1, 12);
        int[] who = {0, 1, -1, -1, -1};
        int[] load = {42, 42, 12, 0, 30};
        for (int s = 0; s < 5; s++) {
            Check.due("seat(" + s + ", 0)", x.seat(s, 0), who[s]);
            Check.due("seat(" + s + ", 1)", x.seat(s, 1), s == 3 ? 1 : 0);
            Check.due("seat(" + s + ", 2)", x.seat(s, 2), load[s]);
        }
        Check.due("seat(0, 3)", x.seat(0, 3), -1);
        Check.due("seat(0, -1)", x.seat(0, -1), -1);
        Check.due("seat(5, 0)", x.seat(5, 0), -1);
        Check.due("seat(-1, 0)", x.seat(-1, 0), -1);
    }

    private static void newTableForgets() {
        TalkCoopers x = Check.with("table 4;guest a at 0 wet 9 hot 1;swells 60;toast 50;");
        x.minutes(3);
        x.drive(1, 1);
        Check.hear(x, 0, 0, 0);
        x.image();
        x.undo();
        x.undo();
        Check.due("undo", x.undo(), false);
        x.minutes(3);
        Check.due("table", Check.table(x, "table 6;guest b at 5 wet 1 hot 1;"), 2);
        int[] due = {6, 1, 0, 0, 0, 0, 0, 0};
        for (int what = 0; what < 8; what++) {
            Check.due("has(" + what + ") behind table()", x.has(what), due[what]);
        }
        Check.due("kept", x.kept(0, 0), -1);
        Check.due("undo", x.undo(), false);
        Check.due("status(4) stays", x.status(4), 2);
        Check.due("octet(0) stays", x.octet(0), 0);
        Check.due("octet(1) stays", x.octet(1), 3);
        Check.due("octet(8) stays", x.octet(8) >= 0, true);
        Check.due("octet(9)", x.octet(9), -1);
        Check.due("the rules are new", x.later(0, 3), 3);
    }

    /** Nothing of an earlier TABLE, and nothing of one with a FAULT, is left in a later one. */
    private static void tableUponTable() {
        TalkCoopers x = new TalkCoopers();
        String full = "table 9;guest a at 3 wet 9 hot 9;hoop 3;toast 100;swells 9;starts all;spills 9;";
        String plain = "table 4;guest ann at 0 wet 2 hot 1;guest b at 3 wet 0 hot 0;";
        for (int k = 0; k < 3; k++) {
            Check.due("table, full", Check.table(x, full), 7);
            Check.due("table, full again", Check.table(x, full), 7);
            Check.due("later", x.later(0, 3), 27);
            x.say(0, 77);
            Check.due("table, faulty", Check.table(x, full + "hoop 3;"), -1);
            Check.due("table, plain", Check.table(x, plain), 3);
            Check.due("has(0)", x.has(0), 4);
            Check.due("has(1)", x.has(1), 2);
            Check.due("has(2)", x.has(2), 0);
            Check.due("has(4)", x.has(4), 0);
            Check.due("letter", x.letter(1, 1), 0);
            Check.due("no toast", x.chance(5), 0);
            Check.due("swells is wet", x.later(0, 5), 20);
            Check.due("starts is swell>50", x.bursts(0), 20);
            Check.due("spills is size/2", x.later(1, 21), 26);
        }
    }

    private static void faultyTableKeepsAll() {
        TalkCoopers x = Check.with(TWO);
        x.minutes(6);
        Check.hear(x, 0, 0, 25);
        Check.due("table", Check.table(x, "table 6;guest a at 0 wet 1 hot 1;swells 1;toast 7;hoop 1"), -1);
        Check.due("the tape goes", x.feed(0, 0, 0, 0, 0), 20);
        int[] due = {5, 2, 1, 6, 25, 2, 1, 1};
        for (int what = 0; what < 8; what++) {
            Check.due("has(" + what + ") stays", x.has(what), due[what]);
        }
        Check.due("letter stays", x.letter(1, 1), 15);
        Check.due("later stays", x.later(0, 1), 34);
        Check.due("status(1)", x.status(1), 1);
        Check.due("undo", x.undo(), true);
    }
}

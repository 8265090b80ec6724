/** Promises 11 (later), 12 (bursts) and 13 (burst), and how a MINUTE goes by. */
public final class AheadTest {
    private static final String TWO = "table 5;guest ann at 0 wet 9 hot 2;guest bo at 1 wet 4 hot 1;";

    public static void main(String[] args) {
        withoutRules();
        edges();
        nothingChanges();
        lastMinutes();
        allAtOnce();
        partsOfSwells();
        startsByLoad();
        spillsInTurn();
        hoopsHold();
        arithmetic();
        Check.close("AheadTest");
    }

    /** ann has 54 in the sixth MINUTE and bursts; bo has 24, 27 more, and bursts too: ann has 25 of that. */
    private static void withoutRules() {
        TalkCoopers x = Check.with(TWO);
        Check.due("later(0, 0)", x.later(0, 0), 0);
        Check.due("later(0, 5)", x.later(0, 5), 45);
        Check.due("later(1, 5)", x.later(1, 5), 20);
        Check.due("later(0, 6)", x.later(0, 6), 25);
        Check.due("later(1, 6)", x.later(1, 6), 0);
        Check.due("later(0, 7)", x.later(0, 7), 34);
        Check.due("bursts(0)", x.bursts(0), 5);
        Check.due("bursts(1)", x.bursts(1), 5);
        Check.due("burst(0)", x.burst(0), 0);
        Check.due("burst(5)", x.burst(5), 0);
        Check.due("burst(6)", x.burst(6), 2);
        // 34, 43, 52: ann again behind nine; bo then has 12 + 26
        Check.due("burst(8)", x.burst(8), 2);
        Check.due("burst(9)", x.burst(9), 3);
        Check.due("later(1, 9)", x.later(1, 9), 38);
    }

    private static void edges() {
        TalkCoopers x = Check.with(TWO + "swells 1;starts swell>58 and wet=9 or swell=60;");
        Check.due("later(0, 60)", x.later(0, 60), 1);
        Check.due("later(0, 61)", x.later(0, 61), -1);
        Check.due("later(0, -1)", x.later(0, -1), -1);
        Check.due("later(2, 0)", x.later(2, 0), -1);
        Check.due("later(-1, 0)", x.later(-1, 0), -1);
        Check.due("burst(60)", x.burst(60), 1);
        Check.due("burst(61)", x.burst(61), -1);
        Check.due("burst(-1)", x.burst(-1), -1);
        Check.due("bursts(0)", x.bursts(0), 58);
        Check.due("bursts(1)", x.bursts(1), -1);
        Check.due("bursts(2)", x.bursts(2), -1);
        Check.due("bursts(-1)", x.bursts(-1), -1);
        x = Check.with(TWO + "swells 1;starts swell=60 and wet=9 or swell=61;spills 0;");
        Check.due("bursts(0) in the 60th", x.bursts(0), 59);
        Check.due("bursts(1) in the 61st", x.bursts(1), -1);
        Check.due("burst without guests", Check.with("table 3;").burst(60), 0);
        Check.due("burst without guests", Check.with("table 3;").burst(61), -1);
    }

    private static void nothingChanges() {
        TalkCoopers x = Check.with(TWO);
        x.later(0, 30);
        x.bursts(0);
        x.burst(60);
        Check.due("minute", x.has(3), 0);
        Check.due("swells", x.has(4), 0);
        Check.due("kept", x.has(5), 0);
        Check.due("acts", x.has(7), 0);
    }

    private static void lastMinutes() {
        TalkCoopers x = Check.with("table 3;guest a at 0 wet 0 hot 0;starts minute=998;");
        Check.due("on", Check.on(x, Check.withCheck(3, 225, 0, 0, 0, 0, 7)), true);
        Check.due("minute", x.has(3), 993);
        Check.due("later(0, 6)", x.later(0, 6), 0);
        Check.due("later(0, 5)", x.later(0, 5), 7);
        Check.due("later(0, 7)", x.later(0, 7), -1);
        Check.due("burst(6)", x.burst(6), 1);
        Check.due("burst(7)", x.burst(7), -1);
        Check.due("bursts(0)", x.bursts(0), 5);
        Check.due("minutes(6)", x.minutes(6), 1);
        Check.due("later(0, 0)", x.later(0, 0), 0);
        Check.due("later(0, 1)", x.later(0, 1), -1);
        Check.due("burst(0)", x.burst(0), 0);
        Check.due("burst(1)", x.burst(1), -1);
        Check.due("bursts(0)", x.bursts(0), -1);
    }

    /** Each swells by what was so ahead of the MINUTE, not by who has swollen in it already. */
    private static void allAtOnce() {
        TalkCoopers x = Check.with("table 3;guest a at 0 wet 1 hot 0;guest b at 1 wet 2 hot 0;"
                + "swells left*10+right+wet;starts not all;");
        x.say(0, 3);
        x.say(1, 5);
        // a: left is SEAT 2, right b: 3 + 5 + 1; b: left a: 5 + 30 + 2
        Check.due("later(0, 1)", x.later(0, 1), 9);
        Check.due("later(1, 1)", x.later(1, 1), 37);
        x = Check.with("table 3;guest a at 0 wet 1 hot 5;swells hot-minute*2;starts not all;");
        Check.due("later(0, 3)", x.later(0, 3), 5 + 3 + 1);
        Check.due("below is 0", x.later(0, 6), 9 - 1 - 3 - 5);
        Check.due("below is 0", x.later(0, 7), 0);
        x = Check.with("table 3;guest a at 0 wet 1 hot 5;swells 9999;starts not all;");
        Check.due("above is 99", x.later(0, 1), 99);
    }

    private static void partsOfSwells() {
        String three = "table 4;guest a at 3 wet 1 hot 2;guest b at 0 wet 3 hot 4;guest c at 1 wet 5 hot 6;hoop 0;"
                + "starts not all;swells ";
        String[] sums = {"left", "right", "hooped", "swell", "wet*hot", "7-swell", "min(left,right)", "max(left,right)"};
        int[][] due = {{0, 10, 20}, {20, 30, 0}, {0, 1, 0}, {10, 20, 30}, {2, 12, 30}, {-3, -13, -23}, {0, 10, 0}, {20, 30, 20}};
        for (int k = 0; k < sums.length; k++) {
            TalkCoopers x = Check.with(three + sums[k] + ";");
            for (int g = 0; g < 3; g++) {
                x.say(g, 10 + 10 * g);
            }
            for (int g = 0; g < 3; g++) {
                Check.due(sums[k] + " of " + g, x.later(g, 1), 10 + 10 * g + due[k][g]);
            }
        }
    }

    private static void startsByLoad() {
        TalkCoopers x = Check.with("table 5;guest a at 0 wet 0 hot 0;guest b at 4 wet 0 hot 0;guest c at 2 wet 0 hot 0;"
                + "swells 0;spills 0;starts load>50;");
        x.say(0, 30);
        x.say(1, 21);
        x.say(2, 50);
        // a bursts by 51; then the load on b's SEAT is 21 alone
        Check.due("bursts(0)", x.bursts(0), 0);
        Check.due("bursts(1)", x.bursts(1), -1);
        Check.due("bursts(2)", x.bursts(2), -1);
        x.say(2, 51);
        Check.due("bursts(2)", x.bursts(2), 0);
        Check.due("burst(1)", x.burst(1), 2);
    }

    /** c at SEAT 1 bursts over a (SEAT 0) and b (SEAT 2); what is spilt on b is by what is so then. */
    private static void spillsInTurn() {
        String three = "table 3;guest c at 1 wet 5 hot 1;guest b at 2 wet 2 hot 2;guest a at 0 wet 3 hot 3;"
                + "swells 0;starts wet=5 and swell>0 and minute=1;spills ";
        String[] sums = {"size", "size/2", "wet", "hot", "swell", "minute", "size-200", "size*99", "swell+90"};
        int[] onA = {40, 20, 3, 3, 10, 1, 0, 89, 89};
        int[] onB = {40, 20, 2, 2, 20, 1, 0, 79, 79};
        for (int k = 0; k < sums.length; k++) {
            TalkCoopers x = Check.with(three + sums[k] + ";");
            x.say(0, 40);
            x.say(1, 20);
            x.say(2, 10);
            Check.due(sums[k] + ": c", x.later(0, 2), 0);
            Check.due(sums[k] + ": a", x.later(2, 2), 10 + onA[k]);
            Check.due(sums[k] + ": b", x.later(1, 2), 20 + onB[k]);
            Check.due(sums[k] + ": a MINUTE ahead", x.later(0, 1), 40);
        }
        // a has burst by what was spilt on him ahead of his turn, so c, whose turn is over, keeps what he has of it
        TalkCoopers x = Check.with("table 4;guest c at 1 wet 0 hot 0;guest a at 0 wet 0 hot 0;swells 0;spills size;");
        x.say(0, 60);
        x.say(1, 10);
        Check.due("c", x.later(0, 1), 70);
        Check.due("a", x.later(1, 1), 0);
        Check.due("c again", x.bursts(0), 0);
        Check.due("burst(1)", x.burst(1), 2);
        Check.due("burst(2)", x.burst(2), 4);
    }

    private static void hoopsHold() {
        TalkCoopers x = Check.with(TWO + "hoop 0;");
        Check.due("bursts(0)", x.bursts(0), -1);
        Check.due("later(0, 60)", x.later(0, 60), 99);
        Check.due("bursts(1)", x.bursts(1), 12);
        x = Check.with(TWO + "hoop 3;");
        Check.due("bursts(0)", x.bursts(0), 5);
    }

    private static void arithmetic() {
        String one = "table 3;guest a at 0 wet 7 hot 2;starts not all;swells ";
        String[] sums = {"10-3-2", "20/2*3", "2+3*4", "(2+3)*4", "7/2", "(0-7)/2+20", "7/(0-2)+20", "5/0", "0/5",
            "9999*9999/9999/10", "(0-9999*9999)/9999/10+30", "9999*9999-9999*9999+1", "9999*9999+9999-9999*100",
            "min(3,max(1,2))", "max(0-1,min(0-5,4))+6", "1*2*3*4", "99/3/3", "0-1+2", "wet-hot*2+1"};
        int[] due = {5, 30, 14, 20, 3, 16, 16, 0, 0,
            10, 19, 1, 99,
            2, 5, 24, 11, 1, 4};
        for (int k = 0; k < sums.length; k++) {
            Check.due(sums[k], Check.with(one + sums[k] + ";").later(0, 1), due[k]);
        }
    }
}

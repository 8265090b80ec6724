/** Promises 19 (hear), 20 (wets) and 21 (tells). */
public final class HumsTest {
    private static final String TWO = "table 4;guest a at 0 wet 3 hot 0;guest b at 1 wet 5 hot 0;swells wet/2;";

    public static void main(String[] args) {
        hear();
        hearRefused();
        wets();
        wetsByOthers();
        fromNowOn();
        lastMinutes();
        tells();
        tellsOfLikeOnes();
        tellsNone();
        Check.close("HumsTest");
    }

    private static void hear() {
        TalkCoopers x = Check.with(TWO);
        Check.due("hear", Check.hear(x, 0, 0, 0), 1);
        Check.due("the tape goes", x.feed(0, 0, 0, 0, 0), 20);
        Check.due("hear", Check.hear(x, 30, 3, 255, 0, 0, 99, 1, 1, 1), 3);
        Check.due("has(6)", x.has(6), 3);
        int[] sixteen = new int[48];
        Check.due("hear", Check.hear(x, sixteen), 16);
        Check.due("has(6)", x.has(6), 16);
        Check.due("hear", Check.hear(x, 0, 0, 0), 1);
        Check.due("has(6)", x.has(6), 1);
        x.minutes(1);
        x.undo();
        Check.due("undo leaves what is heard", x.has(6), 1);
        Check.due("on", Check.on(x, Check.image(x)), true);
        Check.due("on leaves what is heard", x.has(6), 1);
        Check.due("status(1)", x.status(1), 0);
    }

    private static void hearRefused() {
        TalkCoopers x = Check.with(TWO);
        Check.hear(x, 1, 0, 2);
        int[][] wrong = {{}, {0, 0}, {0, 0, 0, 0}, {0, 0, 0, 0, 0}, {31, 0, 0}, {0, 4, 0}, {0, 255, 0}, {0, 0, 100},
            {0, 0, 254}, {0, 0, 0, 0, 0, 100}, new int[49], new int[51]};
        for (int k = 0; k < wrong.length; k++) {
            Check.due("hear " + k, Check.hear(x, wrong[k]), -1);
            Check.due("the tape goes", x.feed(0, 0, 0, 0, 0), 20);
            Check.due("status(1)", x.status(1), k + 1);
            Check.due("has(6)", x.has(6), 1);
            Check.due("wets stay", x.wets(0), 0b110000);
        }
        Check.due("hear at the edges", Check.hear(x, 30, 3, 255, 0, 0, 99), 2);
    }

    private static void wets() {
        TalkCoopers x = Check.with(TWO);
        Check.due("wets(0), nothing heard", x.wets(0), 1023);
        Check.due("wets(2)", x.wets(2), -1);
        Check.due("wets(-1)", x.wets(-1), -1);
        Check.hear(x, 1, 0, 2);
        Check.due("wets(0)", x.wets(0), 0b110000);
        Check.due("wets(1): a has 1 then", x.wets(1), 0);
        Check.hear(x, 1, 0, 1, 2, 0, 2, 3, 1, 6);
        Check.due("wets(0)", x.wets(0), 0b1100);
        Check.due("wets(1)", x.wets(1), 0b110000);
        Check.hear(x, 0, 2, 255);
        Check.due("nobody is there", x.wets(0), 1023);
        Check.hear(x, 0, 2, 0);
        Check.due("nobody is there", x.wets(0), 0);
        Check.hear(x, 0, 0, 255);
        Check.due("a is there", x.wets(0), 0);
        Check.hear(x, 30, 2, 255, 0, 0, 0);
        Check.due("rows in no order", x.wets(0), 1023);
        Check.due("a is as wet as told", x.guest(0, 1), 3);
    }

    /** How wet a is is heard from b, on whom he spills. */
    private static void wetsByOthers() {
        TalkCoopers x = Check.with("table 4;guest a at 0 wet 3 hot 0;guest b at 1 wet 0 hot 0;swells wet*10;spills 7;");
        Check.hear(x, 2, 1, 7);
        // 30 to 50 behind one MINUTE do not burst, 60 to 100 behind two do: wet 3 to 5; 6 to 9 burst twice
        Check.due("wets(0)", x.wets(0), 0b111000);
        Check.hear(x, 2, 1, 14);
        Check.due("wets(0)", x.wets(0), 0b1111000000);
    }

    private static void fromNowOn() {
        TalkCoopers x = Check.with(TWO);
        Check.hear(x, 1, 0, 3);
        Check.due("wets(0)", x.wets(0), 0b11000000);
        x.minutes(1);
        // one is there already
        Check.due("wets(0)", x.wets(0), 0b110000);
        x.sit(0, 3);
        Check.due("wets(0)", x.wets(0), 0);
    }

    private static void lastMinutes() {
        TalkCoopers x = Check.with(TWO);
        Check.hear(x, 2, 2, 255);
        Check.due("on", Check.on(x, Check.withCheck(3, 229, 0, 0, 0, 0, 0, 0, 1, 0)), true);
        Check.due("minute", x.has(3), 997);
        Check.due("wets(0)", x.wets(0), 1023);
        x.minutes(1);
        Check.due("beyond 999", x.wets(0), 0);
        Check.due("beyond 999", x.tells(0, 0), -1);
        Check.hear(x, 1, 0, 3);
        Check.due("wets(0)", x.wets(0), 0b110000);
        Check.due("tells(0, 0)", x.tells(0, 0), 1);
        Check.due("tells(0, 2)", x.tells(0, 2), 2);
        x.minutes(1);
        Check.hear(x, 0, 2, 255);
        Check.due("wets(0)", x.wets(0), 1023);
        Check.due("no MINUTE comes", x.tells(0, 0), -1);
        Check.due("no MINUTE comes", x.tells(0, 1), -1);
        Check.due("no MINUTE comes", x.tells(0, 2), -1);
    }

    private static void tells() {
        TalkCoopers x = Check.with("table 4;guest a at 1 wet 3 hot 0;guest b at 2 wet 0 hot 0;swells wet;starts not all;");
        due(x, 0, 1, 1, 1);
        due(x, 1, 1, 2, 1);
        Check.due("tells(0, 3)", x.tells(0, 3), -1);
        Check.due("tells(0, -1)", x.tells(0, -1), -1);
        Check.due("tells(2, 0)", x.tells(2, 0), -1);
        Check.due("tells(-1, 0)", x.tells(-1, 0), -1);
        // by fours: 0 1 2 3, 4 .. 7, 8 9; in the second MINUTE by twos, in the fourth one by one
        x = Check.with("table 4;guest a at 1 wet 3 hot 0;swells (wet*(minute+1)/4)-(wet*minute/4);starts not all;");
        due(x, 0, 4, 1, 1);
        Check.hear(x, 1, 1, 1);
        Check.due("wets(0)", x.wets(0), 0b11110000);
        due(x, 0, 4, 1, 1);
        Check.hear(x, 1, 1, 1, 2, 1, 3);
        Check.due("wets(0)", x.wets(0), 0b11000000);
        due(x, 0, 3, 1, 1);
        x = Check.with("table 4;guest a at 1 wet 3 hot 0;swells (9-wet)/5*10;starts not all;");
        due(x, 0, 1, 1, 5);
        x = Check.with("table 4;guest a at 1 wet 3 hot 0;swells wet;starts not all;");
        Check.hear(x, 1, 1, 0);
        Check.due("wets(0)", x.wets(0), 1);
        due(x, 0, 1, 0, 1);
        tellsNoMoreThanCome();
    }

    /** By what is beyond MINUTE 999 nothing is told. */
    private static void tellsNoMoreThanCome() {
        TalkCoopers x = Check.with("table 4;guest a at 1 wet 3 hot 0;swells max(0,minute-998)*wet;starts not all;");
        Check.due("on", Check.on(x, Check.withCheck(3, 215, 0, 0, 0, 0, 1, 0)), true);
        due(x, 0, 1, 0, 10);
        x = Check.with("table 4;guest a at 1 wet 3 hot 0;swells max(0,minute-997)*wet;starts not all;");
        Check.due("on", Check.on(x, Check.withCheck(3, 215, 0, 0, 0, 0, 1, 0)), true);
        due(x, 0, 16, 1, 1);
    }

    private static void tellsOfLikeOnes() {
        TalkCoopers x = Check.with("table 4;guest a at 1 wet 3 hot 0;guest b at 2 wet 0 hot 0;swells hot;");
        due(x, 0, 1, 0, 10);
        x = Check.with("table 4;guest a at 2 wet 3 hot 0;guest b at 1 wet 0 hot 0;swells wet+left+right;starts not all;");
        // in the second MINUTE b, too, swells by what a has; a, in SEAT 2, tells it in the first
        due(x, 0, 1, 2, 1);
        x = Check.with("table 4;guest a at 2 wet 3 hot 0;guest b at 1 wet 0 hot 0;"
                + "swells min(minute,1)*wet+right;starts not all;");
        // both tell it in the third MINUTE, but a, in SEAT 2, in the second already
        due(x, 0, 2, 2, 1);
        x = Check.with("table 4;guest a at 2 wet 3 hot 0;guest b at 1 wet 0 hot 0;"
                + "swells max(0,minute-28)*wet;starts not all;");
        due(x, 0, 30, 2, 1);
        x = Check.with("table 4;guest a at 2 wet 3 hot 0;guest b at 1 wet 0 hot 0;"
                + "swells max(0,minute-29)*wet;starts not all;");
        due(x, 0, 1, 0, 10);
    }

    private static void tellsNone() {
        TalkCoopers x = Check.with(TWO);
        Check.hear(x, 0, 0, 50);
        for (int what = 0; what < 3; what++) {
            Check.due("tells(0, " + what + ")", x.tells(0, what), -1);
        }
        Check.hear(x, 1, 0, 4, 2, 0, 8);
        due(x, 0, 1, 0, 2);
    }

    private static void due(TalkCoopers x, int guest, int minutes, int seat, int left) {
        Check.due("tells(" + guest + ", 0)", x.tells(guest, 0), minutes);
        Check.due("tells(" + guest + ", 1)", x.tells(guest, 1), seat);
        Check.due("tells(" + guest + ", 2)", x.tells(guest, 2), left);
    }
}

/** Terms IV, sentence by sentence: the edges of a QUESTION and of AN IMAGE. */
public final class TermsFourTest {
    public static void main(String[] args) {
        firstAndLast();
        often();
        totalNotHeld();
        mostAndLeast();
        withoutGuests();
        numberAndSeat();
        besideInTheRing();
        besideWithout();
        besideOnePart();
        farShorterWay();
        farFromNone();
        unknownWords();
        whatStandsBehind();
        noSuchQuestion();
        seventhOpen();
        notBesideFarUntilTheirEnd();
        twoBytesOfMinute();
        hoopsAsFlags();
        seatAndSwell();
        lastByte();
        Check.close("TermsFourTest");
    }

    private static String seven(int seats) {
        StringBuilder b = new StringBuilder("table " + seats + ";");
        for (int g = 0; g < 7; g++) {
            b.append("guest ").append((char) ('a' + g)).append(" at ").append(6 - g).append(" wet ").append(g).append(" hot 1;");
        }
        return b.toString();
    }

    private static void firstAndLast() {
        Check.sentence("first TEST, last TEST (the first, the last GUEST for whom it holds)");
        TalkCoopers x = Check.with(seven(9));
        Check.dueAsk(x, "first all", 0);
        Check.dueAsk(x, "last all", 6);
        Check.dueAsk(x, "first wet=6", 6);
        Check.dueAsk(x, "last wet=0", 0);
        Check.dueAsk(x, "first wet>2", 3);
        Check.dueAsk(x, "last wet<5", 4);
        Check.dueAsk(x, "first wet>6", -1);
        Check.dueAsk(x, "last wet<0", -1);
    }

    private static void often() {
        Check.sentence("often TEST (for how many)");
        TalkCoopers x = Check.with(seven(9));
        Check.dueAsk(x, "often all", 7);
        Check.dueAsk(x, "often not all", 0);
        Check.dueAsk(x, "often wet=3", 1);
        Check.dueAsk(x, "often wet>3", 3);
    }

    private static void totalNotHeld() {
        Check.sentence("total SUM (of all together, not held)");
        TalkCoopers x = Check.with(seven(9));
        Check.dueAsk(x, "total 1000*1000", 7000000);
        Check.dueAsk(x, "total 0-1000*1000", -7000000);
        Check.dueAsk(x, "total 9999*9999", 7000000);
        Check.dueAsk(x, "total 0-1", -7);
        Check.dueAsk(x, "total wet", 21);
    }

    private static void mostAndLeast() {
        Check.sentence("most SUM, least SUM (the greatest, the least of all; 0 without GUESTS)");
        TalkCoopers x = Check.with(seven(9));
        Check.dueAsk(x, "most wet", 6);
        Check.dueAsk(x, "least wet", 0);
        Check.dueAsk(x, "most 0-wet-1", -1);
        Check.dueAsk(x, "least 0-wet-1", -7);
        Check.dueAsk(x, "least wet+1", 1);
        Check.dueAsk(x, "most (wet-3)*(wet-3)", 9);
        Check.dueAsk(x, "least (wet-3)*(wet-3)", 0);
    }

    private static void withoutGuests() {
        Check.sentence("0 without GUESTS");
        TalkCoopers x = Check.with("table 3;");
        Check.dueAsk(x, "most 5", 0);
        Check.dueAsk(x, "least 5", 0);
        Check.dueAsk(x, "most 0-5", 0);
        Check.dueAsk(x, "total 5", 0);
        Check.dueAsk(x, "often all", 0);
        Check.dueAsk(x, "first all", -1);
        Check.dueAsk(x, "last all", -1);
        Check.dueAskFault(x, "most all", 1, 5);
    }

    private static void numberAndSeat() {
        Check.sentence("(The GUEST's number, his SEAT, his LOAD;");
        TalkCoopers x = Check.with(seven(9));
        for (int g = 0; g < 7; g++) {
            Check.dueAsk(x, "first number=" + g, g);
            Check.dueAsk(x, "first seat=" + (6 - g), g);
        }
        Check.dueAsk(x, "first number=7", -1);
        Check.dueAsk(x, "first seat=7", -1);
        x.say(0, 99);
        x.sit(6, 7);
        // SEATS 5, 6 and 7 have the load of a's 99, who is in SEAT 6
        Check.dueAsk(x, "often load=99", 3);
        Check.dueAsk(x, "total load", 297);
    }

    private static void besideInTheRing() {
        Check.sentence("the SWELL of the GUEST in the SEAT so many on in the ring, below 0 back, 0 without");
        for (int seats = 3; seats <= 9; seats++) {
            TalkCoopers x = Check.with("table " + seats + ";guest a at 0 wet 0 hot 0;guest b at " + (seats - 1) + " wet 0 hot 0;");
            x.say(0, 10);
            x.say(1, 40);
            String[] on = {"0", "1", "(0-1)", seats + "", "(" + seats + "-1)", "(0-" + seats + ")", "(0-" + seats + "+1)", "(0-" + seats + "-1)"};
            int[] due = {50, 10, 40, 50, 40, 50, 10, 40};
            for (int k = 0; k < on.length; k++) {
                Check.dueAsk(x, "total beside " + on[k], due[k]);
            }
            for (int far : new int[] {1000000, -1000000, 999999, -999999, 9999}) {
                int a = Math.floorMod(far, seats) == 0 ? 10 : Math.floorMod(far, seats) == seats - 1 ? 40 : 0;
                int b = Math.floorMod(far, seats) == 0 ? 40 : Math.floorMod(far, seats) == 1 ? 10 : 0;
                String sum = "(" + (far < 0 ? "0-" : "") + Math.abs(far) / 1000 + "*1000" + (far < 0 ? "-" : "+") + Math.abs(far) % 1000 + ")";
                Check.dueAsk(x, "total beside" + sum, a + b);
            }
        }
    }

    private static void besideWithout() {
        Check.sentence("below 0 back, 0 without");
        TalkCoopers x = Check.with("table 5;guest a at 2 wet 0 hot 0;");
        x.say(0, 99);
        int[] due = {0, 0, 99, 0, 0};
        for (int k = -2; k <= 2; k++) {
            Check.dueAsk(x, "most beside(" + (k + 2) + "-2)", due[k + 2]);
        }
    }

    private static void besideOnePart() {
        Check.sentence("beside PART; far PART;");
        TalkCoopers x = Check.with("table 5;guest a at 2 wet 1 hot 0;guest b at 3 wet 1 hot 0;");
        x.say(0, 10);
        x.say(1, 20);
        Check.dueAsk(x, "most beside 1+1", 21);
        Check.dueAsk(x, "most beside 1*3", 60);
        Check.dueAsk(x, "most beside wet", 20);
        Check.dueAsk(x, "most beside min(1,2)", 20);
        Check.dueAsk(x, "most beside far 1", 20);
        Check.dueAsk(x, "total far beside 2", 0 + 1);
        Check.dueAskFault(x, "most beside", 1, 11);
        Check.dueAskFault(x, "most beside -1", 1, 12);
        Check.dueAskFault(x, "most far all", 1, 9);
        Check.dueAskFault(x, "most far 12345", 1, 13);
    }

    private static void farShorterWay() {
        Check.sentence("how many SEATS it is from his to that of the GUEST of that number, by the shorter way round");
        for (int seats = 3; seats <= 9; seats++) {
            for (int seat = 1; seat < seats; seat++) {
                TalkCoopers x = Check.with("table " + seats + ";guest a at 0 wet 0 hot 0;guest b at " + seat + " wet 0 hot 0;");
                int far = Math.min(seat, seats - seat);
                Check.dueAsk(x, "most far 0", far);
                Check.dueAsk(x, "most far 1", far);
                Check.dueAsk(x, "least far 0", 0);
                Check.dueAsk(x, "total far number", 0);
            }
        }
    }

    private static void farFromNone() {
        Check.sentence("-1 to one that there is not");
        TalkCoopers x = Check.with("table 9;guest a at 0 wet 0 hot 0;guest b at 4 wet 0 hot 0;");
        Check.dueAsk(x, "most far 1", 4);
        Check.dueAsk(x, "most far 2", -1);
        Check.dueAsk(x, "least far 2", -1);
        Check.dueAsk(x, "most far 9999", -1);
        Check.dueAsk(x, "most far(0-1)", -1);
        Check.dueAsk(x, "most far(0-9999*9999)", -1);
        Check.dueAsk(x, "most far(9999*9999)", -1);
    }

    private static void unknownWords() {
        Check.sentence("1 as in I (an unknown word at its first byte; what stands behind it, too)");
        TalkCoopers x = Check.with("table 3;");
        for (String word : "left right hooped size table guest at hoop swells starts spills toast x wett first".split(" ")) {
            Check.dueAskFault(x, "total  " + word + " ", 1, 7);
            Check.dueAskFault(x, "often " + word + ">1", 1, 6);
        }
        for (String word : "firs lasts x total1 wet table".split(" ")) {
            Check.dueAskFault(x, "  " + word, 1, word.equals("total1") ? 7 : 2);
        }
        for (String word : "number seat wet hot swell load minute 0 9999 (1) min(1,2) max(1,2)".split(" ")) {
            Check.dueAsk(x, "total " + word, 0);
        }
    }

    private static void whatStandsBehind() {
        Check.sentence("what stands behind it, too");
        TalkCoopers x = Check.with("table 3;");
        Check.dueAsk(x, "total 1 \n", 0);
        Check.dueAskFault(x, "total 1;", 1, 7);
        Check.dueAskFault(x, "total 1 x", 1, 8);
        Check.dueAskFault(x, "total 1 12345", 1, 8);
        Check.dueAskFault(x, "total 1)", 1, 7);
        Check.dueAskFault(x, "total 1 total 1", 1, 8);
        Check.dueAskFault(x, "first all all", 1, 10);
        Check.dueAskFault(x, "first 1=1=1", 1, 9);
        Check.dueAskFault(x, "total 1=1", 1, 7);
        Check.dueAskFault(x, "total 1\0", 1, 7);
    }

    private static void noSuchQuestion() {
        Check.sentence("1 as in I");
        TalkCoopers x = Check.with("table 3;");
        Check.dueAskFault(x, "", 1, 0);
        Check.dueAskFault(x, " \n", 1, 2);
        Check.dueAskFault(x, "total", 1, 5);
        Check.dueAskFault(x, "total ", 1, 6);
        Check.dueAskFault(x, "first 1", 1, 7);
        Check.dueAskFault(x, "first 1=", 1, 8);
        Check.dueAskFault(x, "first not", 1, 9);
        Check.dueAskFault(x, "total 12345", 1, 10);
        Check.dueAskFault(x, "total 1+", 1, 8);
        Check.dueAskFault(x, "total min(1", 1, 11);
        Check.dueAskFault(x, "total1", 1, 5);
        Check.dueAskFault(x, "total 1wet", 1, 7);
        Check.dueAskFault(x, "total wet1", 1, 9);
        Check.dueAskFault(x, "total\t1", 1, 5);
    }

    private static void seventhOpen() {
        Check.sentence("4 the 7th of ( [ not beside far that is open at once");
        TalkCoopers x = Check.with(seven(9));
        Check.dueAsk(x, "total ((((((1))))))", 7);
        Check.dueAskFault(x, "total (((((((1)))))))", 4, 12);
        Check.dueAsk(x, "total beside beside beside beside beside beside 1", 0);
        Check.dueAskFault(x, "total beside beside beside beside beside beside beside 1", 4, 48);
        Check.dueAsk(x, "total far far far far far far 9", -7);
        Check.dueAskFault(x, "total far far far far far far far 9", 4, 30);
        Check.dueAsk(x, "often [[[[[[all]]]]]]", 7);
        Check.dueAskFault(x, "often [[[[[[[all]]]]]]]", 4, 12);
        Check.dueAsk(x, "often not not not not not not all", 7);
        Check.dueAskFault(x, "often not not not not not not not all", 4, 30);
        Check.dueAsk(x, "often not[not far(beside 1)>1]", 5);
        Check.dueAskFault(x, "often not[not far(beside far 1)>1]", 4, 25);
    }

    private static void notBesideFarUntilTheirEnd() {
        Check.sentence("(not until its FACT, beside, far until its PART ends), at it");
        TalkCoopers x = Check.with(seven(9));
        Check.dueAsk(x, "total far 0-far 0+far 0-far 0+far 0-far 0+far 0-far 0", 0);
        Check.dueAsk(x, "total beside 0*beside 0*beside 0*beside 0*beside 0*beside 0*beside 0*(1)", 0);
        Check.dueAsk(x, "often far far far far far far 9=0-1 and ((((((1))))))=1", 7);
        Check.dueAsk(x, "often not not not not not not all and not not not not not not all", 7);
        Check.dueAskFault(x, "often not not not not not not 1=(1)", 4, 32);
        Check.dueAskFault(x, "often not not not not not not far 9=1", 4, 30);
        Check.dueAskFault(x, "often not not not not not not 1=beside 9", 4, 32);
    }

    // ---- AN IMAGE.

    private static void twoBytesOfMinute() {
        Check.sentence("AN IMAGE: MINUTE (two bytes, the higher first)");
        int[] minutes = {0, 1, 255, 256, 257, 511, 512, 767, 768, 998, 999};
        for (int minute : minutes) {
            TalkCoopers x = Check.with("table 3;");
            Check.due("on", Check.on(x, Check.withCheck(minute >> 8, minute & 255, 0, 0, 0)), true);
            Check.due("MINUTE", x.has(3), minute);
            Check.due("image", x.image(), 6);
            Check.due("the higher", x.octet(0), minute / 256);
            Check.due("the lower", x.octet(1), minute % 256);
        }
    }

    private static void hoopsAsFlags() {
        Check.sentence("for each SEAT 1 if there is a HOOP, else 0");
        for (int seats = 3; seats <= 9; seats++) {
            TalkCoopers x = Check.with("table " + seats + ";hoop 0;hoop " + (seats - 1) + ";");
            Check.due("image", x.image(), 3 + seats);
            for (int s = 0; s < seats; s++) {
                Check.due("flag of SEAT " + s, x.octet(2 + s), s == 0 || s == seats - 1 ? 1 : 0);
            }
        }
    }

    private static void seatAndSwell() {
        Check.sentence("for each GUEST his SEAT, his SWELL");
        TalkCoopers x = Check.with(seven(9));
        x.sit(0, 8);
        for (int g = 0; g < 7; g++) {
            x.say(g, 99 - g);
        }
        Check.due("image", x.image(), 3 + 9 + 14);
        for (int g = 0; g < 7; g++) {
            Check.due("SEAT of " + g, x.octet(11 + 2 * g), g == 0 ? 8 : 6 - g);
            Check.due("SWELL of " + g, x.octet(12 + 2 * g), 99 - g);
        }
        Check.due("behind the last one", x.octet(26), -1);
    }

    private static void lastByte() {
        Check.sentence("last a byte: all ahead from 223 on, c = (3 c + it) mod 251.");
        TalkCoopers x = Check.with("table 3;");
        x.image();
        // 223, 167, 250, 248, 242, 224
        Check.due("of zeros", x.octet(5), 224);
        for (int c : new int[] {0, 1, 249, 250}) {
            int minute = 0;
            while (Check.withCheck(minute >> 8, minute & 255, 0, 1, 0)[5] != c) {
                minute++;
            }
            Check.due("on", Check.on(x, Check.withCheck(minute >> 8, minute & 255, 0, 1, 0)), true);
            x.image();
            Check.due("at MINUTE " + minute, x.octet(5), c);
        }
    }
}

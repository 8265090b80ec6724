/** Promise 29 (ask) and the FAULTS of a QUESTION. */
public final class AskTest {
    private static final String FOUR = "table 7;guest a at 0 wet 1 hot 4;guest b at 2 wet 2 hot 3;guest c at 3 wet 3 hot 2;"
            + "guest d at 6 wet 4 hot 1;hoop 5;";

    public static void main(String[] args) {
        kinds();
        parts();
        besideAndFar();
        held();
        withoutGuests();
        withoutTable();
        noSuchText();
        open();
        nothingElse();
        Check.close("AskTest");
    }

    private static TalkCoopers four() {
        TalkCoopers x = Check.with(FOUR);
        x.minutes(2);
        x.say(0, 10);
        x.say(1, 20);
        x.say(2, 30);
        x.say(3, 40);
        return x;
    }

    private static void kinds() {
        TalkCoopers x = four();
        Check.dueAsk(x, "first swell>10", 1);
        Check.dueAsk(x, "last swell<40", 2);
        Check.dueAsk(x, "often swell>10", 3);
        Check.dueAsk(x, "first swell>40", -1);
        Check.dueAsk(x, "last swell>40", -1);
        Check.dueAsk(x, "often swell>40", 0);
        Check.dueAsk(x, "first all", 0);
        Check.dueAsk(x, "last all", 3);
        Check.dueAsk(x, "total swell", 100);
        Check.dueAsk(x, "most 5-wet", 4);
        Check.dueAsk(x, "least 5-swell", -35);
        Check.dueAsk(x, "least swell", 10);
        Check.dueAsk(x, "most hot", 4);
        Check.dueAsk(x, "most 0-swell", -10);
        Check.dueAsk(x, "\n often  wet>1 and not hot=3 or number=0 ", 3);
        Check.dueAsk(x, "often[wet=1 or wet=2]and hot>3", 1);
        Check.dueAsk(x, "often wet=1 or wet=2 and hot>3", 1);
        Check.dueAsk(x, "often wet=1 or wet=2 and hot=3", 2);
        Check.dueAsk(x, "often not wet=1 and hot>1", 2);
        Check.dueAsk(x, "often all and wet=1", 1);
        Check.dueAsk(x, "often wet<9 and wet=1", 1);
        Check.dueAsk(x, "often not all", 0);
    }

    private static void parts() {
        TalkCoopers x = four();
        String[] sums = {"number", "seat", "wet", "hot", "swell", "load", "minute", "7", "min(wet,hot)", "max(wet,hot)", "(wet)"};
        int[] totals = {6, 11, 10, 10, 100, 50 + 50 + 50 + 50, 8, 28, 6, 14, 10};
        for (int k = 0; k < sums.length; k++) {
            Check.dueAsk(x, "total " + sums[k], totals[k]);
        }
        Check.dueAsk(x, "most load", 50);
        x.sit(0, 1);
        Check.dueAsk(x, "most load", 60);
        Check.dueAsk(x, "first load=60", 1);
    }

    private static void besideAndFar() {
        TalkCoopers x = four();
        // SEATS: a 0, b 2, c 3, d 6 of 7
        Check.dueAsk(x, "total beside 1", 0 + 30 + 0 + 10);
        Check.dueAsk(x, "total beside(0-1)", 40 + 0 + 20 + 0);
        Check.dueAsk(x, "total beside 0", 100);
        Check.dueAsk(x, "total beside 7", 100);
        Check.dueAsk(x, "total beside 701", 40);
        // a million back is one back
        Check.dueAsk(x, "total beside(0-9999*9999)", 40 + 0 + 20 + 0);
        Check.dueAsk(x, "first beside wet=20", -1);
        Check.dueAsk(x, "most beside seat", 40);
        Check.dueAsk(x, "total beside 1+1", 44);
        // 10 on from SEAT 0 is SEAT 3, 20 on from 2 is 1, 30 on from 3 is 5, 40 on from 6 is 4
        Check.dueAsk(x, "total beside beside 0", 30 + 0 + 0 + 0);
        int[] toA = {0, 2, 3, 1};
        int[] toC = {3, 1, 0, 3};
        for (int g = 0; g < 4; g++) {
            Check.dueAsk(x, "first far 0=" + toA[g] + " and number=" + g, g);
            Check.dueAsk(x, "first far 2=" + toC[g] + " and number=" + g, g);
        }
        Check.dueAsk(x, "total far 4", -4);
        Check.dueAsk(x, "total far(0-1)", -4);
        Check.dueAsk(x, "total far number", 0);
        Check.dueAsk(x, "most far 3", 3);
        Check.dueAsk(x, "total far far 0", 0 + 1 + 3 + 3);
    }

    private static void held() {
        TalkCoopers x = four();
        Check.dueAsk(x, "total 9999*9999", 4000000);
        Check.dueAsk(x, "total 0-9999*9999", -4000000);
        Check.dueAsk(x, "most 9999*9999+1-1", 999999);
        Check.dueAsk(x, "least 0-9999*9999-5+1", -999999);
        Check.dueAsk(x, "most 9999*100+100", 1000000);
        Check.dueAsk(x, "most 9999*100+99", 999999);
        Check.dueAsk(x, "most (0-7)/2", -4);
        Check.dueAsk(x, "most 7/(0-2)", -4);
        Check.dueAsk(x, "most (0-7)/(0-2)", 3);
        Check.dueAsk(x, "most 7/0", 0);
        Check.dueAsk(x, "most (0-7)/0", 0);
        Check.dueAsk(x, "most 2-3-4", -5);
        Check.dueAsk(x, "most 2+3*4-20/3/2", 11);
    }

    private static void withoutGuests() {
        TalkCoopers x = Check.with("table 3;");
        Check.dueAsk(x, "first all", -1);
        Check.dueAsk(x, "last all", -1);
        Check.dueAsk(x, "often all", 0);
        Check.dueAsk(x, "total 5", 0);
        Check.dueAsk(x, "most 5", 0);
        Check.dueAsk(x, "least 5", 0);
    }

    private static void withoutTable() {
        TalkCoopers x = new TalkCoopers();
        Check.table(x, "table 3; x");
        Check.due("ask", Check.ask(x, "total 1 1"), TalkCoopers.NOTHING);
        Check.due("the tape goes", x.feed(0, 0, 0, 0, 0), 20);
        Check.due("fault(0) stays", x.fault(0), 1);
        Check.due("fault(1) stays", x.fault(1), 9);
        Check.due("ask", Check.ask(x, "total 1"), TalkCoopers.NOTHING);
        Check.due("fault(1) stays", x.fault(1), 9);
    }

    private static void noSuchText() {
        TalkCoopers x = four();
        Check.dueAskFault(x, "", 1, 0);
        Check.dueAskFault(x, "  ", 1, 2);
        Check.dueAskFault(x, "what 1", 1, 0);
        Check.dueAskFault(x, " firs all", 1, 1);
        Check.dueAskFault(x, "table 3", 1, 0);
        Check.dueAskFault(x, "1", 1, 0);
        Check.dueAskFault(x, "first", 1, 5);
        Check.dueAskFault(x, "first ", 1, 6);
        Check.dueAskFault(x, "first wet", 1, 9);
        Check.dueAskFault(x, "first wet>1 ;", 1, 12);
        Check.dueAskFault(x, "total 1 1", 1, 8);
        Check.dueAskFault(x, "total 1 total", 1, 8);
        Check.dueAskFault(x, "total all", 1, 6);
        Check.dueAskFault(x, "total1", 1, 5);
        Check.dueAskFault(x, "total 12345", 1, 10);
        Check.dueAskFault(x, "total wet>1", 1, 9);
        Check.dueAskFault(x, "total beside", 1, 12);
        Check.dueAskFault(x, "total beside all", 1, 13);
        Check.dueAskFault(x, "total beside1", 1, 12);
        Check.dueAskFault(x, "total far -1", 1, 10);
        for (String word : "left right hooped size guest at number1 numbers Wet".split(" ")) {
            Check.dueAskFault(x, "total " + word, 1, word.equals("number1") ? 12 : 6);
        }
        Check.due("the tape goes", x.feed(0, 0, 0, 0, 0), 20);
        Check.dueAsk(x, "total 1", 4);
    }

    private static void open() {
        TalkCoopers x = four();
        Check.dueAsk(x, "total ((((((1))))))", 4);
        Check.dueAskFault(x, "total (((((((1)))))))", 4, 12);
        Check.dueAsk(x, "total beside beside beside beside beside beside 0+beside 0", 10 + 100);
        Check.dueAskFault(x, "total far far far far far far far 0", 4, 30);
        Check.dueAskFault(x, "total far(far(far(beside 0)))", 4, 18);
        // b: 2, then 1, then 0; c: 3, 3, 3; d: 1, 3, 0
        Check.dueAsk(x, "total far(far(far(0)))", 0 + 0 + 3 + 0);
        Check.dueAskFault(x, "first [not[not far(min(1,2))>1]]", 4, 22);
        Check.dueAsk(x, "first [not[not far(1)>9]]", -1);
        Check.dueAsk(x, "total min(1,2)+(1)+max(1,2)+(1)+min(1,2)+(1)+max(1,2)+(1)", 4 * 10);
        Check.dueAskFault(x, "often [[[[[[[", 4, 12);
        Check.dueAskFault(x, "often not not not not not not not", 4, 30);
        Check.dueAsk(x, "often not not not not not not all and not not all", 4);
    }

    private static void nothingElse() {
        TalkCoopers x = four();
        int acts = x.has(7);
        Check.dueAsk(x, "total swell", 100);
        Check.dueAskFault(x, "total", 1, 5);
        Check.due("acts", x.has(7), acts);
        Check.due("minute", x.has(3), 2);
        for (int what = 0; what < 6; what++) {
            Check.due("nothing is refused", x.status(what), 0);
        }
    }
}

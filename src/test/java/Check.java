import java.nio.charset.StandardCharsets;

/** What the tests share: texts and bytes are fed, answers are held against those that are due. */
final class Check {
    private static int wrong = 0;
    private static int checks = 0;

    private Check() {
    }

    static void due(String call, long got, long want) {
        checks++;
        if (got != want) {
            wrong++;
            System.out.println(call + " answered " + got + ", due is " + want);
        }
    }

    static void due(String call, boolean got, boolean want) {
        due(call, got ? 1 : 0, want ? 1 : 0);
    }

    /** Puts these bytes, and nothing else, on the tape. */
    static void tape(TalkCoopers x, int... bytes) {
        x.end(0);
        for (int from = 0; from < bytes.length; from += 20) {
            int[] n = new int[5];
            for (int k = 0; k < 20; k++) {
                int b = from + k < bytes.length ? bytes[from + k] & 255 : 0;
                n[k / 4] = n[k / 4] << 8 | b;
            }
            x.feed(n[0], n[1], n[2], n[3], n[4]);
        }
        if (!x.end(bytes.length)) {
            throw new IllegalStateException("the tape holds no " + bytes.length + " bytes");
        }
    }

    static void tape(TalkCoopers x, String text) {
        byte[] bytes = text.getBytes(StandardCharsets.ISO_8859_1);
        int[] numbers = new int[bytes.length];
        for (int k = 0; k < bytes.length; k++) {
            numbers[k] = bytes[k];
        }
        tape(x, numbers);
    }

    static int table(TalkCoopers x, String text) {
        tape(x, text);
        return x.table();
    }

    static long ask(TalkCoopers x, String text) {
        tape(x, text);
        return x.ask();
    }

    static int hear(TalkCoopers x, int... bytes) {
        tape(x, bytes);
        return x.hear();
    }

    static boolean on(TalkCoopers x, int... bytes) {
        tape(x, bytes);
        return x.on();
    }

    /** A new object with this TABLE, which must be one. */
    static TalkCoopers with(String text) {
        TalkCoopers x = new TalkCoopers();
        if (table(x, text) < 0) {
            throw new IllegalStateException("fault " + x.fault(0) + " at " + x.fault(1) + " of " + text);
        }
        return x;
    }

    static void dueTableFault(String text, int fault, int place) {
        TalkCoopers x = new TalkCoopers();
        due("table() of " + text, table(x, text), TalkCoopers.NONE);
        due("fault(0) of " + text, x.fault(0), fault);
        due("fault(1) of " + text, x.fault(1), place);
    }

    static void dueTable(String text, int statements) {
        TalkCoopers x = new TalkCoopers();
        due("table() of " + text, table(x, text), statements);
        due("fault(0) of " + text, x.fault(0), 0);
        due("fault(1) of " + text, x.fault(1), TalkCoopers.NONE);
    }

    static void dueAskFault(TalkCoopers x, String text, int fault, int place) {
        due("ask() of " + text, ask(x, text), TalkCoopers.NOTHING);
        due("fault(0) of " + text, x.fault(0), fault);
        due("fault(1) of " + text, x.fault(1), place);
    }

    static void dueAsk(TalkCoopers x, String text, long answer) {
        due("ask() of " + text, ask(x, text), answer);
        due("fault(0) of " + text, x.fault(0), 0);
        due("fault(1) of " + text, x.fault(1), TalkCoopers.NONE);
    }

    /** The bytes of an image, told by octet(). */
    static int[] image(TalkCoopers x) {
        int[] bytes = new int[x.image()];
        for (int k = 0; k < bytes.length; k++) {
            bytes[k] = x.octet(k);
        }
        return bytes;
    }

    /** Bytes with the check byte behind them that an image has. */
    static int[] withCheck(int... bytes) {
        int[] all = java.util.Arrays.copyOf(bytes, bytes.length + 1);
        int c = 223;
        for (int b : bytes) {
            c = (3 * c + b) % 251;
        }
        all[bytes.length] = c;
        return all;
    }

    static void close(String test) {
        System.out.println(test + ": " + checks + " answers, " + wrong + " wrong");
        if (wrong != 0) {
            System.exit(1);
        }
    }
}

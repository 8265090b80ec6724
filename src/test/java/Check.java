import java.io.IOException;
import java.nio.charset.StandardCharsets;
import java.nio.file.Files;
import java.nio.file.Path;

/** What the tests share: texts and bytes are fed, answers are held against those that are due. */
final class Check {
    private static int wrong = 0;
    private static int checks = 0;
    private static String document = "";
    private static String sentence = "";

    private Check() {
    }

    /** The sentence of ../shared/DOC.md that the checks behind this hold against; it must stand there, word by word. */
    static void sentence(String words) {
        if (document.isEmpty()) {
            document = readDocument();
        }
        sentence = words;
        due("the sentence stands in the document", document.contains(words), true);
    }

    private static String readDocument() {
        Path path = Path.of(System.getProperty("root", "."), "..", "shared", "DOC.md");
        try {
            return Files.readString(path, StandardCharsets.UTF_8).replaceAll("\\s+", " ");
        } catch (IOException e) {
            throw new IllegalStateException("the document can't be read: " + path, e);
        }
    }

    static void due(String call, long got, long want) {
        checks++;
        if (got != want) {
            wrong++;
            String where = sentence.isEmpty() ? "" : " [" + sentence + "]";
            System.out.println(call + " answered " + got + ", due is " + want + where);
        }
    }

    static void due(String call, boolean got, boolean want) {
        due(call, got ? 1 : 0, want ? 1 : 0);
    }

    /** Puts these bytes, and nothing else, on the tape. */
    static void tape(TalkCoopers x, int... bytes) {
        x.end(0);
        for (int from = 0; from < bytes.length; from += 20) {
            int[] n = new int[5];
            for (int k = 0; k < 20; k++) {
                int b = from + k < bytes.length ? bytes[from + k] & 255 : 0;
                n[k / 4] = n[k / 4] << 8 | b;
            }
            x.feed(n[0], n[1], n[2], n[3], n[4]);
        }
        if (!x.end(bytes.length)) {
            throw new IllegalStateException("the tape holds no " + bytes.length + " bytes");
        }
    }

    static void tape(TalkCoopers x, String text) {
        byte[] bytes = text.getBytes(StandardCharsets.ISO_8859_1);
        int[] numbers = new int[bytes.length];
        for (int k = 0; k < bytes.length; k++) {
            numbers[k] = bytes[k];
        }
        tape(x, numbers);
    }

    static int table(TalkCoopers x, String text) {
        tape(x, text);
        return x.table();
    }

    static long ask(TalkCoopers x, String text) {
        tape(x, text);
        return x.ask();
    }

    static int hear(TalkCoopers x, int... bytes) {
        tape(x, bytes);
        return x.hear();
    }

    static boolean on(TalkCoopers x, int... bytes) {
        tape(x, bytes);
        return x.on();
    }

    /** A new object with this TABLE, which must be one. */
    static TalkCoopers with(String text) {
        TalkCoopers x = new TalkCoopers();
        if (table(x, text) < 0) {
            throw new IllegalStateException("fault " + x.fault(0) + " at " + x.fault(1) + " of " + text);
        }
        return x;
    }

    static void dueTableFault(String text, int fault, int place) {
        TalkCoopers x = new TalkCoopers();
        due("table() of " + text, table(x, text), TalkCoopers.NONE);
        due("fault(0) of " + text, x.fault(0), fault);
        due("fault(1) of " + text, x.fault(1), place);
    }

    static void dueTable(String text, int statements) {
        TalkCoopers x = new TalkCoopers();
        due("table() of " + text, table(x, text), statements);
        due("fault(0) of " + text, x.fault(0), 0);
        due("fault(1) of " + text, x.fault(1), TalkCoopers.NONE);
    }

    static void dueAskFault(TalkCoopers x, String text, int fault, int place) {
        due("ask() of " + text, ask(x, text), TalkCoopers.NOTHING);
        due("fault(0) of " + text, x.fault(0), fault);
        due("fault(1) of " + text, x.fault(1), place);
    }

    static void dueAsk(TalkCoopers x, String text, long answer) {
        due("ask() of " + text, ask(x, text), answer);
        due("fault(0) of " + text, x.fault(0), 0);
        due("fault(1) of " + text, x.fault(1), TalkCoopers.NONE);
    }

    /** The bytes of an image, told by octet(). */
    static int[] image(TalkCoopers x) {
        int[] bytes = new int[x.image()];
        for (int k = 0; k < bytes.length; k++) {
            bytes[k] = x.octet(k);
        }
        return bytes;
    }

    /** Bytes with the check byte behind them that an image has. */
    static int[] withCheck(int... bytes) {
        int[] all = java.util.Arrays.copyOf(bytes, bytes.length + 1);
        int c = 223;
        for (int b : bytes) {
            c = (3 * c + b) % 251;
        }
        all[bytes.length] = c;
        return all;
    }

    /** All that can be seen of what is so, but for FAULTS and refusals. */
    static String seen(TalkCoopers x) {
        StringBuilder b = new StringBuilder();
        for (int what = 0; what < 8; what++) {
            b.append(x.has(what)).append(' ');
        }
        for (int g = 0; g < x.has(1); g++) {
            for (int k = 0; k < 6; k++) {
                b.append(x.letter(g, k)).append(' ').append(x.guest(g, Math.min(k, 3))).append(' ');
            }
            b.append(x.later(g, 1)).append(' ').append(x.wets(g)).append(' ');
        }
        for (int s = 0; s < x.has(0); s++) {
            b.append(x.seat(s, 0)).append(' ').append(x.seat(s, 1)).append(' ').append(x.seat(s, 2)).append(' ');
        }
        for (int k = 0; k < x.has(5); k++) {
            for (int what = 0; what < 4; what++) {
                b.append(x.kept(k, what)).append(' ');
            }
        }
        for (int k = 0; x.octet(k) >= 0; k++) {
            b.append(x.octet(k)).append(' ');
        }
        return b.toString();
    }

    static void dueStays(String call, TalkCoopers x, String seenAhead) {
        String now = seen(x);
        if (!now.equals(seenAhead)) {
            System.out.println("it was " + seenAhead + "\nand is " + now);
        }
        due(call + ": all stays", now.equals(seenAhead), true);
    }

    static void close(String test) {
        System.out.println(test + ": " + checks + " answers, " + wrong + " wrong");
        if (wrong != 0) {
            System.exit(1);
        }
    }
}

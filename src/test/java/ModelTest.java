import java.nio.charset.StandardCharsets;

/** Many runs of calls by a row of numbers that is always the same: each answer held against the Model's. */
public final class ModelTest {
    private static final String[] NAMES = {"anna", "bob", "c", "dora", "emil", "first", "g", "wets", "anna"};
    private static final String[] BAD = {"~", ";", "table", "(", ")", "12345", "guest", "wet", "left", "hooped", "size",
        "load", "beside", "1a", "a1", " ", ",", "[", "not", "A", "all", "]", "=", "-"};

    private long state;
    private TalkCoopers x;
    private Model m;
    private final StringBuilder trace = new StringBuilder();
    private int calls;

    private ModelTest(long seed) {
        state = seed * 7919 + 17;
    }

    private int pick(int m) {
        state = state * 6364136223846793005L + 1442695040888963407L;
        return (int) ((state >>> 33) % m);
    }

    private String of(String... words) {
        return words[pick(words.length)];
    }

    // ---- texts.

    private String part(String within, int depth) {
        int k = pick(depth > 0 ? 14 : 9);
        switch (k) {
            case 0: case 1: case 2: return String.valueOf(pick(pick(3) == 0 ? 10000 : 12));
            case 3: return "wet";
            case 4: return "hot";
            case 5: return "swell";
            case 6: return pick(3) == 0 ? "minute" : "swell";
            case 7: case 8:
                switch (within) {
                    case "swells": return of("left", "right", "hooped");
                    case "starts": return "load";
                    case "spills": return "size";
                    default: return of("number", "seat", "load");
                }
            case 9: case 10: return "(" + sum(within, depth - 1) + ")";
            case 11: return of("min", "max") + "(" + sum(within, depth - 1) + "," + sum(within, depth - 1) + ")";
            default:
                return within.equals("ask") ? of("beside ", "far ") + part(within, depth - 1)
                        : "( " + sum(within, depth - 1) + " )";
        }
    }

    private String product(String within, int depth) {
        String s = part(within, depth);
        while (pick(4) == 0) {
            s += of("*", "/", " * ", "/ ") + part(within, depth);
        }
        return s;
    }

    private String sum(String within, int depth) {
        String s = product(within, depth);
        while (pick(3) == 0) {
            s += of("+", "-", " + ", "\n-") + product(within, depth);
        }
        return s;
    }

    private String fact(String within, int depth) {
        switch (pick(depth > 0 ? 8 : 5)) {
            case 0: return pick(4) == 0 ? "all" : sum(within, depth) + ">" + sum(within, depth);
            case 1: return sum(within, depth) + "<" + sum(within, depth);
            case 2: return sum(within, depth) + " = " + sum(within, depth);
            case 3: case 4: return "swell > " + pick(70);
            case 5: return "not " + fact(within, depth - 1);
            default: return "[" + test(within, depth - 1) + "]";
        }
    }

    private String test(String within, int depth) {
        String s = fact(within, depth);
        while (pick(3) == 0) {
            s += of(" and ", " or ") + fact(within, depth);
        }
        return s;
    }

    /** A SUM or a TEST with five to eight of ( [ not beside far open at once. */
    private String deep(String within, boolean isTest) {
        int many = 5 + pick(4);
        StringBuilder close = new StringBuilder();
        StringBuilder b = new StringBuilder();
        boolean inTest = isTest;
        for (int k = 0; k < many; k++) {
            if (inTest && pick(3) != 0) {
                boolean isNot = pick(2) == 0;
                b.append(isNot ? "not " : "[");
                close.insert(0, isNot ? "" : "]");
                continue;
            }
            close.insert(0, inTest ? ">" + part(within, 1) : "");
            inTest = false;
            switch (pick(within.equals("ask") ? 4 : 3)) {
                case 0: b.append("("); close.insert(0, ")"); break;
                case 1: b.append("min ("); close.insert(0, "," + part(within, 1) + ")"); break;
                case 2: b.append("max(").append(part(within, 0)).append(","); close.insert(0, ")"); break;
                default: b.append(of("beside ", "far ")); break;
            }
        }
        return b + (inTest ? "all" : part(within, 0)) + close;
    }

    private String table() {
        int seats = 3 + pick(7);
        StringBuilder b = new StringBuilder("table " + seats + ";");
        int guests = pick(Math.min(seats, pick(3) == 0 ? 7 : 4) + 1);
        int shift = pick(seats);
        for (int g = 0; g < guests; g++) {
            int seat = pick(12) == 0 ? pick(seats + 1) : (g + shift) % seats;
            b.append(of("guest ", "\nguest  ")).append(NAMES[pick(25) == 0 ? 8 : g]).append(" at ").append(seat)
                    .append(" wet ").append(pick(60) == 0 ? 10 : pick(10)).append(" hot ").append(pick(10)).append(";");
        }
        int more = pick(40) == 0 ? 61 : pick(6);
        for (int k = 0; k < more; k++) {
            switch (pick(more > 6 ? 2 : 7)) {
                case 0: case 1: b.append("toast ").append(pick(101)).append(";"); break;
                case 2: b.append("hoop ").append(pick(seats)).append(" ;"); break;
                case 3: b.append("swells ").append(sumOf("swells")).append(";"); break;
                case 4: b.append("starts ").append(testOf("starts")).append(";"); break;
                case 5: b.append("spills ").append(sumOf("spills")).append("; "); break;
                default: b.append("swells wet ").append(of("+ left/3;", "+ hot - 2;", "*2;", "+ hooped;", "+1/0;", "-hot;")); break;
            }
        }
        return b.toString();
    }

    private String question() {
        return pick(2) == 0 ? of("first ", "last ", "often ") + testOf("ask") : of("total ", "most ", "least ") + sumOf("ask");
    }

    private String sumOf(String within) {
        return pick(8) == 0 ? deep(within, false) : sum(within, pick(3));
    }

    private String testOf(String within) {
        return pick(8) == 0 ? deep(within, true) : test(within, pick(3));
    }

    private String spoilt(String s) {
        int k = s.isEmpty() ? 0 : pick(s.length());
        switch (pick(5)) {
            case 0: return s.substring(0, k);
            case 1: return s.substring(0, k) + of(BAD) + s.substring(k);
            case 2: return s.substring(0, k) + s.substring(Math.min(s.length(), k + 1 + pick(4)));
            case 3: return s.substring(0, k) + (char) pick(256) + s.substring(Math.min(s.length(), k + 1));
            default: return s.substring(0, k) + s.substring(k) + s.substring(k);
        }
    }

    // ---- calls.

    private void same(String call, long got, long want) {
        calls++;
        trace.append(call).append(" = ").append(want).append('\n');
        if (got != want) {
            System.out.println(trace);
        }
        Check.due(call, got, want);
    }

    private void same(String call, boolean got, boolean want) {
        same(call, got ? 1 : 0, want ? 1 : 0);
    }

    private void end(int n) {
        same("end(" + n + ")", x.end(n), m.end(n));
    }

    private void tape(int... bytes) {
        end(0);
        for (int from = 0; from < bytes.length && from < 1600; from += 20) {
            int[] n = new int[5];
            for (int k = 0; k < 20; k++) {
                n[k / 4] = n[k / 4] << 8 | (from + k < bytes.length ? bytes[from + k] & 255 : 32);
            }
            same("feed", x.feed(n[0], n[1], n[2], n[3], n[4]), m.feed(n[0], n[1], n[2], n[3], n[4]));
        }
        end(Math.min(1600, bytes.length));
    }

    private void text(String s) {
        trace.append("--- ").append(s).append('\n');
        byte[] bytes = s.getBytes(StandardCharsets.ISO_8859_1);
        int[] numbers = new int[bytes.length];
        for (int k = 0; k < bytes.length; k++) {
            numbers[k] = bytes[k] & 255;
        }
        tape(numbers);
    }

    private void faults() {
        same("fault(0)", x.fault(0), m.fault(0));
        same("fault(1)", x.fault(1), m.fault(1));
    }

    private void newTable() {
        String s = table();
        text(pick(3) == 0 ? spoilt(s) : s);
        same("table()", x.table(), m.table());
        faults();
    }

    private void newQuestion() {
        String s = question();
        text(pick(4) == 0 ? spoilt(s) : s);
        same("ask()", x.ask(), m.ask());
        faults();
    }

    private int some(int most) {
        return pick(12) == 0 ? pick(3) == 0 ? -1 - pick(2) : most + pick(3) : pick(Math.max(1, most));
    }

    private int wild() {
        return pick(2) == 0 ? Integer.MIN_VALUE + pick(3) : Integer.MAX_VALUE - pick(3);
    }

    private void hear() {
        int rows = 1 + pick(pick(20) == 0 ? 17 : 2);
        int[] bytes = new int[rows * 3 + (pick(20) == 0 ? 1 : 0)];
        int g = pick(Math.max(1, m.now.guests()));
        Model.World w = m.guestIs(g) ? m.wetter(g, pick(10), 0) : null;
        int minute = 0;
        for (int k = 0; k + 2 < bytes.length; k += 3) {
            int more = pick(4);
            minute = Math.min(30, minute + more);
            int s = some(Math.max(1, m.now.rules.seats));
            bytes[k] = pick(30) == 0 ? pick(40) : minute;
            bytes[k + 1] = s & 255;
            if (w != null && w.rules.seats > 0 && pick(8) != 0) {
                w.minutes(Math.max(0, m.now.minute + minute - w.minute));
                int who = w.seat.indexOf(w.ring(s));
                bytes[k + 2] = who < 0 ? 255 : (int) (long) w.swell.get(who);
            } else {
                bytes[k + 2] = pick(3) == 0 ? 255 : pick(110);
            }
        }
        tape(bytes);
        same("hear()", x.hear(), m.hear());
    }

    private void images() {
        same("image()", x.image(), m.image());
        int[] bytes = new int[m.picture.size()];
        for (int k = -1; k <= bytes.length; k++) {
            same("octet(" + k + ")", x.octet(k), m.octet(k));
            if (k >= 0 && k < bytes.length) {
                bytes[k] = m.octet(k);
            }
        }
        int many = bytes.length - 1;
        int spoil = pick(3);
        for (int k = 0; k < spoil; k++) {
            int at = pick(many);
            bytes[at] = at < 2 ? pick(5) : pick(2) == 0 ? pick(2) : pick(8) == 0 ? pick(256) : pick(100);
        }
        int[] all = Check.withCheck(java.util.Arrays.copyOf(bytes, many));
        if (pick(8) == 0) {
            all[many] ^= 1;
        }
        tape(pick(10) == 0 ? java.util.Arrays.copyOf(all, pick(all.length + 3)) : all);
        same("on()", x.on(), m.on());
    }

    private void look() {
        for (int k = -1; k <= 8; k++) {
            same("has(" + k + ")", x.has(k), m.has(k));
        }
        for (int g = -1; g <= m.now.guests(); g++) {
            for (int what = -1; what <= 4; what++) {
                same("guest(" + g + ", " + what + ")", x.guest(g, what), m.guest(g, what));
            }
        }
        for (int s = -1; s <= m.now.rules.seats; s++) {
            for (int what = -1; what <= 3; what++) {
                same("seat(" + s + ", " + what + ")", x.seat(s, what), m.seat(s, what));
            }
        }
        for (int k = -1; k <= 6; k++) {
            same("status(" + k + ")", x.status(k), m.status(k));
        }
    }

    private void lookBack() {
        for (int k = -1; k <= m.told().size(); k++) {
            int what = some(4);
            same("kept(" + k + ", " + what + ")", x.kept(k, what), m.kept(k, what));
        }
        int g = some(m.now.guests());
        for (int k = -1; k <= 6; k++) {
            same("letter(" + g + ", " + k + ")", x.letter(g, k), m.letter(g, k));
        }
    }

    private void plans() {
        int n = some(31);
        same("hoops(" + n + ")", x.hoops(n), m.hoops(n));
        n = some(31);
        for (int what = -1; what <= 3; what++) {
            same("change(" + n + ", " + what + ")", x.change(n, what), m.change(n, what));
        }
        n = some(11);
        boolean few = m.now.guests() <= 4 || pick(12) == 0;
        for (int g = -2; few && g <= m.now.guests(); g++) {
            if (m.now.guests() <= 4 || g < 1) {
                same("seating(" + n + ", " + g + ")", x.seating(n, g), m.seating(n, g));
            }
        }
        n = pick(2) == 0 ? pick(150) : some(694);
        same("tun(" + n + ")", x.tun(n), m.tun(n));
        same("row()", x.row(), m.row());
    }

    private void aheads() {
        int g = some(m.now.guests());
        int n = some(61);
        same("later(" + g + ", " + n + ")", x.later(g, n), m.later(g, n));
        same("bursts(" + g + ")", x.bursts(g), m.bursts(g));
        same("burst(" + n + ")", x.burst(n), m.burst(n));
    }

    private void hums() {
        for (int g = -1; g <= m.now.guests(); g++) {
            same("wets(" + g + ")", x.wets(g), m.wets(g));
        }
        int g = some(m.now.guests());
        for (int what = -1; what <= 3; what++) {
            same("tells(" + g + ", " + what + ")", x.tells(g, what), m.tells(g, what));
        }
    }

    private void acts() {
        int g = some(m.now.guests());
        int s = some(m.now.rules.seats);
        int n = some(pick(5) == 0 ? 101 : 8);
        switch (pick(9)) {
            case 0: same("drive(" + s + ", " + (n & 3) + ")", x.drive(s, n & 3), m.drive(s, n & 3)); break;
            case 1: same("drive(" + s + ", " + n % 2 + ")", x.drive(s, n % 2), m.drive(s, n % 2)); break;
            case 2: same("sit(" + g + ", " + s + ")", x.sit(g, s), m.sit(g, s)); break;
            case 3:
                int swell = some(100);
                same("say(" + g + ", " + swell + ")", x.say(g, swell), m.say(g, swell));
                break;
            case 4: case 5: same("minutes(" + n + ")", x.minutes(n), m.minutes(n)); break;
            case 6: same("chance(" + n + ")", x.chance(n), m.chance(n)); break;
            case 7: same("undo()", x.undo(), m.undo()); break;
            default:
                int seed = pick(4) == 0 ? wild() : pick(1000000);
                if (pick(3) == 0) {
                    same("seed(" + seed + ")", x.seed(seed), m.seed(seed));
                }
        }
    }

    private void wildCalls() {
        int a = wild();
        int b = pick(2) == 0 ? wild() : pick(4);
        same("end", x.end(a), m.end(a));
        same("fault", x.fault(a), m.fault(a));
        same("has", x.has(a), m.has(a));
        same("letter", x.letter(b, a), m.letter(b, a));
        same("guest", x.guest(a, b), m.guest(a, b));
        same("seat", x.seat(b, a), m.seat(b, a));
        same("kept", x.kept(a, b), m.kept(a, b));
        same("later", x.later(b, a), m.later(b, a));
        same("bursts", x.bursts(a), m.bursts(a));
        same("burst", x.burst(a), m.burst(a));
        same("hoops", x.hoops(a), m.hoops(a));
        same("change", x.change(a, b), m.change(a, b));
        same("seating", x.seating(a, b), m.seating(a, b));
        same("tun", x.tun(a), m.tun(a));
        same("wets", x.wets(a), m.wets(a));
        same("tells", x.tells(b, a), m.tells(b, a));
        same("drive", x.drive(b, a), m.drive(b, a));
        same("sit", x.sit(b, a), m.sit(b, a));
        same("say", x.say(b, a), m.say(b, a));
        same("minutes", x.minutes(a), m.minutes(a));
        same("chance", x.chance(a), m.chance(a));
        same("octet", x.octet(a), m.octet(a));
        same("status", x.status(a), m.status(a));
    }

    private void step() {
        switch (pick(14)) {
            case 0: if (pick(4) == 0) { newTable(); } break;
            case 1: newQuestion(); break;
            case 2: hear(); hums(); break;
            case 3: if (pick(3) == 0) { images(); } break;
            case 4: look(); break;
            case 5: lookBack(); break;
            case 6: plans(); break;
            case 7: aheads(); break;
            case 8: if (pick(5) == 0) { hums(); } break;
            case 9: if (pick(6) == 0) { wildCalls(); } break;
            default: acts();
        }
    }

    private void run() {
        x = new TalkCoopers();
        m = new Model();
        if (pick(4) != 0) {
            for (int k = 0; k < 3 && m.now.rules.seats == 0; k++) {
                newTable();
            }
        }
        while (calls < 380) {
            step();
        }
    }

    public static void main(String[] args) {
        int runs = args.length > 0 ? Integer.parseInt(args[0]) : 400;
        int from = args.length > 1 ? Integer.parseInt(args[1]) : 0;
        for (int k = from; k < from + runs; k++) {
            new ModelTest(k).run();
        }
        Check.close("ModelTest");
    }
}

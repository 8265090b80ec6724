import java.util.ArrayDeque;
import java.util.ArrayList;
import java.util.Arrays;
import java.util.Deque;
import java.util.HashMap;
import java.util.HashSet;
import java.util.List;
import java.util.Map;
import java.util.Set;
import java.util.TreeSet;

/** The document once more, written as plainly as can be and in no hurry: what each call should answer. */
final class Model {
    static final class Fault extends RuntimeException {
        final int kind;
        final int place;

        Fault(int kind, int place) {
            this.kind = kind;
            this.place = place;
        }
    }

    interface Sum {
        long of(World w, int guest, long size);
    }

    static final class Rules {
        int statements;
        int seats;
        final List<String> names = new ArrayList<>();
        final List<Integer> seat = new ArrayList<>();
        final List<Integer> wet = new ArrayList<>();
        final List<Integer> hot = new ArrayList<>();
        final Set<Integer> hoops = new TreeSet<>();
        Sum swells;
        Sum starts;
        Sum spills;
        int toast;
    }

    static final class World {
        Rules rules = new Rules();
        int minute;
        Set<Integer> hoops = new TreeSet<>();
        List<Integer> seat = new ArrayList<>();
        List<Long> swell = new ArrayList<>();
        List<Integer> wet = new ArrayList<>();
        List<int[]> kept = new ArrayList<>();
        List<Integer> burstNow = new ArrayList<>();

        World copy() {
            World w = new World();
            w.rules = rules;
            w.minute = minute;
            w.hoops = new TreeSet<>(hoops);
            w.seat = new ArrayList<>(seat);
            w.swell = new ArrayList<>(swell);
            w.wet = new ArrayList<>(wet);
            w.kept = new ArrayList<>(kept);
            return w;
        }

        int guests() {
            return rules.names.size();
        }

        int ring(long seat) {
            return (int) (((seat % rules.seats) + rules.seats) % rules.seats);
        }

        long swellIn(long s) {
            int g = seat.indexOf(ring(s));
            return g < 0 ? 0 : swell.get(g);
        }

        long load(long s) {
            return swellIn(s) + swellIn(s - 1) + swellIn(s + 1);
        }

        static long clamp(long v) {
            return Math.max(0, Math.min(99, v));
        }

        int minute() {
            List<Long> next = new ArrayList<>();
            for (int g = 0; g < guests(); g++) {
                next.add(clamp(swell.get(g) + rules.swells.of(this, g, 0)));
            }
            swell = next;
            burstNow = new ArrayList<>();
            for (int g = 0; g < guests(); g++) {
                if (hoops.contains(seat.get(g)) || rules.starts.of(this, g, 0) == 0) {
                    continue;
                }
                long size = swell.get(g);
                burstNow.add(g);
                kept.add(new int[] {minute, g, seat.get(g), (int) size});
                swell.set(g, 0L);
                for (int s : new int[] {ring(seat.get(g) - 1), ring(seat.get(g) + 1)}) {
                    int on = seat.indexOf(s);
                    if (on >= 0) {
                        swell.set(on, Math.min(99, swell.get(on) + clamp(rules.spills.of(this, on, size))));
                    }
                }
            }
            minute++;
            return burstNow.size();
        }

        int minutes(int n) {
            int count = 0;
            for (int i = 0; i < n; i++) {
                count += minute();
            }
            return count;
        }
    }

    // ---- texts, byte by byte.

    static final Set<String> OWN = new HashSet<>(Arrays.asList(("table guest at wet hot hoop swells starts spills "
            + "toast swell minute left right hooped load size number seat beside far or and not all min max").split(" ")));

    static final class Parser {
        final int[] text;
        final String within0;
        int at;
        int open;
        String within;

        Parser(int[] text, String within) {
            this.text = text;
            this.within0 = within;
            this.within = within;
        }

        static boolean letter(int c) {
            return c >= 97 && c <= 122;
        }

        static boolean digit(int c) {
            return c >= 48 && c <= 57;
        }

        int at(int k) {
            return k >= 0 && k < text.length ? text[k] : -1;
        }

        void blanks() {
            while (at(at) == 32 || at(at) == 10) {
                at++;
            }
        }

        /** The word that stands next, not taken; "" when none does. */
        String peek() {
            blanks();
            StringBuilder b = new StringBuilder();
            if (digit(at(at - 1))) {
                return "";
            }
            for (int k = at; letter(at(k)); k++) {
                b.append((char) at(k));
            }
            return b.toString();
        }

        boolean peekSign(char c) {
            blanks();
            return at(at) == c;
        }

        Fault no() {
            blanks();
            return new Fault(1, at);
        }

        void word(String w) {
            if (!peek().equals(w)) {
                throw no();
            }
            at += w.length();
        }

        void sign(char c) {
            if (!peekSign(c)) {
                throw no();
            }
            at++;
        }

        int number() {
            blanks();
            if (!digit(at(at)) || letter(at(at - 1))) {
                throw no();
            }
            int from = at;
            int n = 0;
            while (digit(at(at))) {
                if (at - from == 4) {
                    throw new Fault(1, at);
                }
                n = 10 * n + at(at) - 48;
                at++;
            }
            return n;
        }

        int number(int least, int most) {
            blanks();
            int from = at;
            int n = number();
            if (n < least || n > most) {
                throw new Fault(2, from);
            }
            return n;
        }

        void open() {
            blanks();
            if (open == 6) {
                throw new Fault(4, at);
            }
            open++;
        }

        Rules table() {
            Rules r = new Rules();
            Set<String> given = new HashSet<>();
            for (blanks(); at < text.length; blanks()) {
                if (r.statements == 60) {
                    throw new Fault(5, at);
                }
                String w = peek();
                if (r.statements == 0) {
                    word("table");
                    r.seats = number(3, 9);
                } else if (w.equals("guest")) {
                    guest(r);
                } else if (w.equals("hoop")) {
                    word("hoop");
                    blanks();
                    int from = at;
                    int s = number(0, r.seats - 1);
                    if (!r.hoops.add(s)) {
                        throw new Fault(2, from);
                    }
                } else if (w.equals("toast")) {
                    word("toast");
                    r.toast = number(0, 100);
                } else if (w.equals("swells") || w.equals("starts") || w.equals("spills")) {
                    if (!given.add(w)) {
                        throw new Fault(5, at);
                    }
                    word(w);
                    within = w;
                    open = 0;
                    Sum sum = w.equals("starts") ? test() : sum();
                    r.swells = w.equals("swells") ? sum : r.swells;
                    r.starts = w.equals("starts") ? sum : r.starts;
                    r.spills = w.equals("spills") ? sum : r.spills;
                } else {
                    throw no();
                }
                sign(';');
                r.statements++;
            }
            if (r.statements == 0) {
                throw new Fault(1, text.length);
            }
            r.swells = r.swells != null ? r.swells : (x, g, size) -> x.wet.get(g);
            r.starts = r.starts != null ? r.starts : (x, g, size) -> x.swell.get(g) > 50 ? 1 : 0;
            r.spills = r.spills != null ? r.spills : (x, g, size) -> size / 2;
            return r;
        }

        void guest(Rules r) {
            if (r.names.size() == 7) {
                throw new Fault(5, at);
            }
            word("guest");
            String name = peek();
            if (name.isEmpty() || OWN.contains(name)) {
                throw no();
            }
            if (name.length() > 6) {
                throw new Fault(1, at + 6);
            }
            if (r.names.contains(name)) {
                throw new Fault(3, at);
            }
            at += name.length();
            word("at");
            blanks();
            int from = at;
            int seat = number(0, r.seats - 1);
            if (r.seat.contains(seat)) {
                throw new Fault(2, from);
            }
            word("wet");
            int wet = number(0, 9);
            word("hot");
            int hot = number(0, 9);
            r.names.add(name);
            r.seat.add(seat);
            r.wet.add(wet);
            r.hot.add(hot);
        }

        Sum test() {
            Sum a = both();
            while (peek().equals("or")) {
                word("or");
                Sum l = a;
                Sum m = both();
                a = (w, g, s) -> l.of(w, g, s) != 0 || m.of(w, g, s) != 0 ? 1 : 0;
            }
            return a;
        }

        Sum both() {
            Sum a = fact();
            while (peek().equals("and")) {
                word("and");
                Sum l = a;
                Sum m = fact();
                a = (w, g, s) -> l.of(w, g, s) != 0 && m.of(w, g, s) != 0 ? 1 : 0;
            }
            return a;
        }

        Sum fact() {
            if (peek().equals("not")) {
                open();
                word("not");
                Sum a = fact();
                open--;
                return (w, g, s) -> 1 - a.of(w, g, s);
            }
            if (peek().equals("all")) {
                word("all");
                return (w, g, s) -> 1;
            }
            if (peekSign('[')) {
                open();
                sign('[');
                Sum a = test();
                sign(']');
                open--;
                return a;
            }
            Sum a = sum();
            blanks();
            int c = at(at);
            if (c != '<' && c != '>' && c != '=') {
                throw no();
            }
            at++;
            Sum b = sum();
            return (w, g, s) -> {
                int d = Long.compare(a.of(w, g, s), b.of(w, g, s));
                return (c == '<' ? d < 0 : c == '>' ? d > 0 : d == 0) ? 1 : 0;
            };
        }

        static long hold(long v) {
            return v > 1000000 ? 1000000 : v < -1000000 ? -1000000 : v;
        }

        Sum sum() {
            Sum a = product();
            while (peekSign('+') || peekSign('-')) {
                boolean plus = at(at) == '+';
                at++;
                Sum l = a;
                Sum m = product();
                a = (w, g, s) -> hold(plus ? l.of(w, g, s) + m.of(w, g, s) : l.of(w, g, s) - m.of(w, g, s));
            }
            return a;
        }

        Sum product() {
            Sum a = part();
            while (peekSign('*') || peekSign('/')) {
                boolean times = at(at) == '*';
                at++;
                Sum l = a;
                Sum m = part();
                a = (w, g, s) -> {
                    long p = l.of(w, g, s);
                    long q = m.of(w, g, s);
                    return times ? hold(p * q) : q == 0 ? 0 : (long) Math.floor((double) p / (double) q);
                };
            }
            return a;
        }

        Sum part() {
            blanks();
            if (digit(at(at))) {
                int n = number();
                return (w, g, s) -> n;
            }
            if (peekSign('(')) {
                open();
                sign('(');
                Sum a = sum();
                sign(')');
                open--;
                return a;
            }
            String name = peek();
            boolean asks = within.equals("ask");
            if (name.equals("min") || name.equals("max")) {
                word(name);
                if (!peekSign('(')) {
                    throw no();
                }
                open();
                sign('(');
                Sum a = sum();
                sign(',');
                Sum b = sum();
                sign(')');
                open--;
                return name.equals("min") ? (w, g, s) -> Math.min(a.of(w, g, s), b.of(w, g, s))
                        : (w, g, s) -> Math.max(a.of(w, g, s), b.of(w, g, s));
            }
            if (asks && (name.equals("beside") || name.equals("far"))) {
                open();
                word(name);
                Sum a = part();
                open--;
                return name.equals("beside") ? (w, g, s) -> w.swellIn(w.seat.get(g) + a.of(w, g, s))
                        : (w, g, s) -> far(w, g, a.of(w, g, s));
            }
            Sum known = known(name);
            if (known == null) {
                throw no();
            }
            word(name);
            return known;
        }

        static long far(World w, int g, long other) {
            if (other < 0 || other >= w.guests()) {
                return -1;
            }
            int steps = 0;
            while (w.ring(w.seat.get(g) + steps) != w.seat.get((int) other)
                    && w.ring(w.seat.get(g) - steps) != w.seat.get((int) other)) {
                steps++;
            }
            return steps;
        }

        Sum known(String name) {
            Map<String, Sum> m = new HashMap<>();
            m.put("wet", (w, g, s) -> w.wet.get(g));
            m.put("hot", (w, g, s) -> w.rules.hot.get(g));
            m.put("swell", (w, g, s) -> w.swell.get(g));
            m.put("minute", (w, g, s) -> w.minute);
            switch (within) {
                case "swells":
                    m.put("left", (w, g, s) -> w.swellIn(w.seat.get(g) - 1));
                    m.put("right", (w, g, s) -> w.swellIn(w.seat.get(g) + 1));
                    m.put("hooped", (w, g, s) -> w.hoops.contains(w.seat.get(g)) ? 1 : 0);
                    break;
                case "starts":
                    m.put("load", (w, g, s) -> w.load(w.seat.get(g)));
                    break;
                case "spills":
                    m.put("size", (w, g, s) -> s);
                    break;
                default:
                    m.put("load", (w, g, s) -> w.load(w.seat.get(g)));
                    m.put("number", (w, g, s) -> g);
                    m.put("seat", (w, g, s) -> w.seat.get(g));
            }
            return m.get(name);
        }

        long question(World w) {
            String kind = peek();
            if (!Arrays.asList("first", "last", "often", "total", "most", "least").contains(kind)) {
                throw no();
            }
            word(kind);
            boolean byTest = kind.equals("first") || kind.equals("last") || kind.equals("often");
            Sum q = byTest ? test() : sum();
            blanks();
            if (at < text.length) {
                throw no();
            }
            List<Long> values = new ArrayList<>();
            List<Integer> holds = new ArrayList<>();
            for (int g = 0; g < w.guests(); g++) {
                values.add(q.of(w, g, 0));
                if (q.of(w, g, 0) != 0) {
                    holds.add(g);
                }
            }
            switch (kind) {
                case "first": return holds.isEmpty() ? -1 : holds.get(0);
                case "last": return holds.isEmpty() ? -1 : holds.get(holds.size() - 1);
                case "often": return holds.size();
                case "total": return values.stream().mapToLong(v -> v).sum();
                case "most": return values.stream().mapToLong(v -> v).max().orElse(0);
                default: return values.stream().mapToLong(v -> v).min().orElse(0);
            }
        }
    }

    // ---- the state.

    final List<Integer> tape = new ArrayList<>();
    World now = new World();
    final Deque<World> past = new ArrayDeque<>();
    List<int[]> heard = new ArrayList<>();
    List<Integer> picture = new ArrayList<>();
    final int[] refused = new int[6];
    int fault;
    int place = -1;
    long x = 1;

    boolean refuse(int k) {
        refused[k]++;
        return false;
    }

    int[] takeTape() {
        int[] t = tape.stream().mapToInt(v -> v).toArray();
        tape.clear();
        return t;
    }

    boolean has() {
        return now.rules.seats > 0;
    }

    boolean guestIs(int g) {
        return g >= 0 && g < now.guests();
    }

    boolean seatIs(int s) {
        return s >= 0 && s < now.rules.seats;
    }

    boolean comes(int n, int least, int most) {
        return has() && n >= least && n <= most && now.minute + n <= 999;
    }

    void act() {
        past.addLast(now.copy());
        if (past.size() > 20) {
            past.removeFirst();
        }
    }

    int feed(int... five) {
        if (tape.size() + 20 > 1600) {
            refuse(0);
            return -1;
        }
        for (int n : five) {
            for (int b = 3; b >= 0; b--) {
                tape.add((n >> (8 * b)) & 255);
            }
        }
        return tape.size();
    }

    boolean end(int n) {
        if (n < 0 || n > tape.size()) {
            return refuse(0);
        }
        tape.subList(n, tape.size()).clear();
        return true;
    }

    int table() {
        fault = 0;
        place = -1;
        try {
            Rules r = new Parser(takeTape(), "").table();
            now = new World();
            now.rules = r;
            now.hoops.addAll(r.hoops);
            now.seat.addAll(r.seat);
            now.wet.addAll(r.wet);
            for (int g = 0; g < r.names.size(); g++) {
                now.swell.add(0L);
            }
            past.clear();
            heard.clear();
            return r.statements;
        } catch (Fault f) {
            fault = f.kind;
            place = f.place;
            refuse(1);
            return -1;
        }
    }

    int fault(int what) {
        return what == 0 ? fault : what == 1 ? place : -1;
    }

    List<int[]> told() {
        return now.kept.subList(Math.max(0, now.kept.size() - 40), now.kept.size());
    }

    int has(int what) {
        int all = 0;
        for (long s : now.swell) {
            all += s;
        }
        int[] a = {now.rules.seats, now.guests(), now.hoops.size(), now.minute, all, told().size(), heard.size(), past.size()};
        return what >= 0 && what < a.length ? a[what] : -1;
    }

    int letter(int g, int k) {
        if (!guestIs(g) || k < 0 || k > 5) {
            return -1;
        }
        String name = now.rules.names.get(g);
        return k < name.length() ? name.charAt(k) - 96 : 0;
    }

    int guest(int g, int what) {
        if (!guestIs(g) || what < 0 || what > 3) {
            return -1;
        }
        return what == 0 ? now.seat.get(g) : what == 1 ? now.rules.wet.get(g) : what == 2 ? now.rules.hot.get(g)
                : (int) (long) now.swell.get(g);
    }

    int seat(int s, int what) {
        if (!seatIs(s) || what < 0 || what > 2) {
            return -1;
        }
        return what == 0 ? now.seat.indexOf(s) : what == 1 ? (now.hoops.contains(s) ? 1 : 0) : (int) now.load(s);
    }

    int kept(int k, int what) {
        return k < 0 || k >= told().size() || what < 0 || what > 3 ? -1 : told().get(k)[what];
    }

    int later(int g, int n) {
        if (!guestIs(g) || !comes(n, 0, 60)) {
            return -1;
        }
        World w = now.copy();
        w.minutes(n);
        return (int) (long) w.swell.get(g);
    }

    int bursts(int g) {
        if (!guestIs(g)) {
            return -1;
        }
        World w = now.copy();
        for (int n = 0; n < 60 && now.minute + n < 999; n++) {
            w.minute();
            if (w.burstNow.contains(g)) {
                return n;
            }
        }
        return -1;
    }

    int burst(int n) {
        return comes(n, 0, 60) ? now.copy().minutes(n) : -1;
    }

    int hoops(int n) {
        if (!comes(n, 1, 30)) {
            return -1;
        }
        for (int many = 0; many <= now.rules.seats; many++) {
            for (int bits = 0; bits < 1 << now.rules.seats; bits++) {
                World w = now.copy();
                w.hoops.clear();
                for (int s = 0; s < now.rules.seats; s++) {
                    if ((bits >> s) % 2 == 1) {
                        w.hoops.add(s);
                    }
                }
                if (w.hoops.size() == many && w.minutes(n) == 0) {
                    return bits;
                }
            }
        }
        throw new IllegalStateException("all SEATS hold");
    }

    int change(int n, int what) {
        if (!comes(n, 1, 30) || what < 0 || what > 2) {
            return -1;
        }
        int[] best = {-1, -1, now.copy().minutes(n)};
        for (int a = 0; a < now.guests(); a++) {
            for (int b = a + 1; b < now.guests(); b++) {
                World w = now.copy();
                java.util.Collections.swap(w.seat, a, b);
                int c = w.minutes(n);
                if (c < best[2]) {
                    best = new int[] {a, b, c};
                }
            }
        }
        return best[what];
    }

    int bestBursts;
    List<Integer> bestSeats;

    void seatings(List<Integer> row, int n) {
        if (row.size() == now.guests()) {
            World w = now.copy();
            w.seat = new ArrayList<>(row);
            int c = w.minutes(n);
            if (c < bestBursts) {
                bestBursts = c;
                bestSeats = new ArrayList<>(row);
            }
            return;
        }
        for (int s : new TreeSet<>(now.seat)) {
            if (!row.contains(s)) {
                row.add(s);
                seatings(row, n);
                row.remove(row.size() - 1);
            }
        }
    }

    int seating(int n, int g) {
        if (!comes(n, 1, 10) || g != -1 && !guestIs(g)) {
            return -1;
        }
        bestBursts = Integer.MAX_VALUE;
        seatings(new ArrayList<>(), n);
        return g == -1 ? bestBursts : bestSeats.get(g);
    }

    int tun(int n) {
        int best = -1;
        for (int bits = 0; n >= 1 && n <= 693 && bits < 1 << now.guests(); bits++) {
            long all = 0;
            for (int g = 0; g < now.guests(); g++) {
                all += (bits >> g & 1) == 1 ? now.swell.get(g) : 0;
            }
            if (all == n && (best < 0 || Integer.bitCount(bits) < Integer.bitCount(best))) {
                best = bits;
            }
        }
        return best;
    }

    int row() {
        int most = 0;
        for (int from = 0; from < now.rules.seats; from++) {
            int many = 0;
            while (many < now.rules.seats && now.seat.contains(now.ring(from + many))) {
                many++;
            }
            most = Math.max(most, many);
        }
        return most;
    }

    int hear() {
        int[] t = takeTape();
        boolean good = t.length >= 3 && t.length <= 48 && t.length % 3 == 0;
        List<int[]> rows = new ArrayList<>();
        for (int k = 0; good && k < t.length; k += 3) {
            good = t[k] <= 30 && t[k + 1] < now.rules.seats && (t[k + 2] <= 99 || t[k + 2] == 255);
            rows.add(new int[] {t[k], t[k + 1], t[k + 2]});
        }
        if (!good) {
            refuse(1);
            return -1;
        }
        heard = rows;
        return rows.size();
    }

    World wetter(int g, int wet, int minutes) {
        World w = now.copy();
        w.wet.set(g, wet);
        w.minutes(minutes);
        return w;
    }

    int wets(int g) {
        if (!guestIs(g)) {
            return -1;
        }
        int bits = 0;
        for (int wet = 0; wet < 10; wet++) {
            boolean so = true;
            for (int[] row : heard) {
                if (now.minute + row[0] > 999) {
                    so = false;
                } else if (so) {
                    World w = wetter(g, wet, row[0]);
                    int who = w.seat.indexOf(row[1]);
                    so = row[2] == (who < 0 ? 255 : w.swell.get(who));
                }
            }
            bits |= so ? 1 << wet : 0;
        }
        return bits;
    }

    int tells(int g, int what) {
        if (!guestIs(g) || what < 0 || what > 2) {
            return -1;
        }
        int bits = wets(g);
        if (bits == 0) {
            return -1;
        }
        int[] best = {-1, -1, 99};
        Map<Integer, World> ahead = new HashMap<>();
        for (int wet = 0; wet < 10; wet++) {
            if ((bits >> wet & 1) == 1) {
                ahead.put(wet, wetter(g, wet, 0));
            }
        }
        for (int m = 1; m <= 30 && now.minute + m <= 999; m++) {
            ahead.values().forEach(World::minute);
            for (int s = 0; s < now.rules.seats; s++) {
                Map<Long, Integer> many = new HashMap<>();
                for (World w : ahead.values()) {
                    many.merge(w.seat.contains(s) ? w.swellIn(s) : -1L, 1, Integer::sum);
                }
                int most = java.util.Collections.max(many.values());
                if (most < best[2]) {
                    best = new int[] {m, s, most};
                }
            }
        }
        return best[0] < 0 ? -1 : best[what];
    }

    boolean drive(int s, int on) {
        if (!seatIs(s) || on < 0 || on > 1 || now.hoops.contains(s) == (on == 1)) {
            return refuse(2);
        }
        act();
        if (on == 1) {
            now.hoops.add(s);
        } else {
            now.hoops.remove(s);
        }
        return true;
    }

    boolean sit(int g, int s) {
        if (!guestIs(g) || !seatIs(s) || now.seat.contains(s)) {
            return refuse(2);
        }
        act();
        now.seat.set(g, s);
        return true;
    }

    boolean say(int g, int swell) {
        if (!guestIs(g) || swell < 0 || swell > 99 || now.swell.get(g) == swell) {
            return refuse(2);
        }
        act();
        now.swell.set(g, (long) swell);
        return true;
    }

    int minutes(int n) {
        if (!comes(n, 1, 100)) {
            refuse(3);
            return -1;
        }
        act();
        return now.minutes(n);
    }

    int draw(int m) {
        x = (1103515245L * x + 12345) % 2147483648L;
        return (int) (x / 64 % m);
    }

    int chance(int n) {
        if (!comes(n, 1, 100)) {
            refuse(3);
            return -1;
        }
        act();
        int toasts = 0;
        for (int i = 0; i < n; i++) {
            if (draw(100) < now.rules.toast && now.guests() > 0) {
                int g = draw(now.guests());
                now.swell.set(g, Math.min(99, now.swell.get(g) + 9));
                toasts++;
            }
            now.minute();
        }
        return toasts;
    }

    boolean undo() {
        if (past.isEmpty()) {
            return refuse(4);
        }
        now = past.removeLast();
        return true;
    }

    boolean seed(int s) {
        if (s < 0) {
            return refuse(5);
        }
        x = s;
        return true;
    }

    long ask() {
        int[] t = takeTape();
        if (!has()) {
            return TalkCoopers.NOTHING;
        }
        fault = 0;
        place = -1;
        try {
            return new Parser(t, "ask").question(now);
        } catch (Fault f) {
            fault = f.kind;
            place = f.place;
            return TalkCoopers.NOTHING;
        }
    }

    static int check(List<Integer> bytes) {
        int c = 223;
        for (int b : bytes) {
            c = (3 * c + b) % 251;
        }
        return c;
    }

    int image() {
        picture = new ArrayList<>();
        picture.add(now.minute / 256);
        picture.add(now.minute % 256);
        for (int s = 0; s < now.rules.seats; s++) {
            picture.add(now.hoops.contains(s) ? 1 : 0);
        }
        for (int g = 0; g < now.guests(); g++) {
            picture.add(now.seat.get(g));
            picture.add((int) (long) now.swell.get(g));
        }
        picture.add(check(picture));
        return picture.size();
    }

    int octet(int k) {
        return k >= 0 && k < picture.size() ? picture.get(k) : -1;
    }

    boolean on() {
        int[] t = takeTape();
        List<Integer> bytes = new ArrayList<>();
        for (int b : t) {
            bytes.add(b);
        }
        int seats = now.rules.seats;
        if (!has() || t.length != 3 + seats + 2 * now.guests()
                || check(bytes.subList(0, t.length - 1)) != t[t.length - 1] || t[0] * 256 + t[1] > 999) {
            return refuse(5);
        }
        World w = now.copy();
        w.minute = t[0] * 256 + t[1];
        w.hoops.clear();
        w.seat.clear();
        w.swell.clear();
        w.kept.clear();
        boolean good = true;
        for (int s = 0; s < seats; s++) {
            good &= t[2 + s] <= 1;
            if (t[2 + s] == 1) {
                w.hoops.add(s);
            }
        }
        for (int g = 0; g < now.guests(); g++) {
            int s = t[2 + seats + 2 * g];
            good &= s < seats && !w.seat.contains(s) && t[3 + seats + 2 * g] <= 99;
            w.seat.add(s);
            w.swell.add((long) t[3 + seats + 2 * g]);
        }
        if (!good) {
            return refuse(5);
        }
        now = w;
        past.clear();
        return true;
    }

    int status(int what) {
        return what >= 0 && what < 6 ? refused[what] : -1;
    }
}

import java.io.IOException;
import java.lang.reflect.Constructor;
import java.lang.reflect.Field;
import java.lang.reflect.Method;
import java.lang.reflect.Modifier;
import java.nio.charset.StandardCharsets;
import java.nio.file.Files;
import java.nio.file.Path;
import java.util.Set;
import java.util.TreeSet;

/** What can be seen of LANGUAGE.md from outside: the face, the classes inside, the words of the source. */
public final class RulesTest {
    private static final String FACE = "ask bursts burst change chance drive end fault feed guest has hear hoops image kept "
            + "later letter minutes octet on row say seat seating seed sit status table tells tun undo wets";
    private static final String[] FORBIDDEN = {"throw", "throws", "try", "catch", "synchronized", "assert", "package",
        "protected", "Object", "System.out", "Math.random", "Exact(", "::", "hashCode", "while (true)", "for (;;)", "@"};
    /** What the room holds, by four bytes each at the least. */
    private static final long ROOM_BYTES = 4L * 7300000;

    public static void main(String[] args) throws IOException {
        face();
        classesInside();
        source();
        room();
        Check.close("RulesTest");
    }

    private static void face() {
        Set<String> due = new TreeSet<>(Set.of(FACE.split(" ")));
        Set<String> found = new TreeSet<>();
        for (Method m : TalkCoopers.class.getDeclaredMethods()) {
            if (Modifier.isPublic(m.getModifiers())) {
                found.add(m.getName());
            } else {
                Check.due(m + " is private", Modifier.isPrivate(m.getModifiers()), true);
            }
        }
        Check.due("the face " + found, found.equals(due), true);
        for (Field f : TalkCoopers.class.getDeclaredFields()) {
            boolean isConstant = f.getName().equals("NONE") || f.getName().equals("NOTHING");
            Check.due(f + " is private or a constant", isConstant ? Modifier.isPublic(f.getModifiers())
                    : Modifier.isPrivate(f.getModifiers()), true);
        }
        Constructor<?>[] made = TalkCoopers.class.getDeclaredConstructors();
        Check.due("constructors", made.length, 1);
        Check.due("TalkCoopers is final", Modifier.isFinal(TalkCoopers.class.getModifiers()), true);
    }

    private static void classesInside() {
        Class<?>[] inside = TalkCoopers.class.getDeclaredClasses();
        Check.due("classes", inside.length + 1 <= 12, true);
        for (Class<?> c : inside) {
            Check.due(c + " is static", Modifier.isStatic(c.getModifiers()), true);
            small(c);
            for (Method m : c.getDeclaredMethods()) {
                boolean isOfTheFace = Set.of(FACE.split(" ")).contains(m.getName());
                Check.due(m + " has a name of its own", isOfTheFace, false);
            }
        }
        small(TalkCoopers.class);
    }

    private static void small(Class<?> c) {
        int fields = 0;
        for (Field f : c.getDeclaredFields()) {
            if (Modifier.isStatic(f.getModifiers())) {
                Check.due(f + " is final", Modifier.isFinal(f.getModifiers()), true);
            } else {
                fields++;
            }
        }
        Check.due("fields of " + c, fields <= 20, true);
        for (Method m : c.getDeclaredMethods()) {
            Check.due("parameters of " + m, m.getParameterCount() <= 7, true);
        }
    }

    private static void source() throws IOException {
        Path root = Path.of(System.getProperty("root", "."));
        String text = Files.readString(root.resolve("src/main/java/TalkCoopers.java"), StandardCharsets.UTF_8);
        for (int k = 0; k < text.length(); k++) {
            if (text.charAt(k) > 126) {
                Check.due("sign " + k + " is ASCII", false, true);
            }
        }
        String bare = text.replaceAll("(?s)/\\*.*?\\*/", "").replaceAll("//[^\n]*", "").replaceAll("\"[^\"\n]*\"", "\"\"");
        for (String word : FORBIDDEN) {
            boolean isWord = Character.isLetter(word.charAt(0)) && Character.isLetter(word.charAt(word.length() - 1));
            boolean found = isWord ? bare.matches("(?s).*\\b" + java.util.regex.Pattern.quote(word) + "\\b.*") : bare.contains(word);
            Check.due("'" + word + "' in the source", found, false);
        }
        int length = 0;
        for (String line : bare.split("\n")) {
            boolean begins = line.matches(" {4,8}[a-zA-Z].*\\) \\{");
            length = begins ? 1 : length + 1;
            if (line.matches(" {4,8}}") && length > 60) {
                Check.due("lines of the method that ends in " + line, length, 60);
            }
        }
    }

    /** All calls of a run live in one room: the bytes that this thread gets for some 500 of them tell. */
    private static void room() {
        com.sun.management.ThreadMXBean bean =
                (com.sun.management.ThreadMXBean) java.lang.management.ManagementFactory.getThreadMXBean();
        long thread = Thread.currentThread().getId();
        int[] words = {0x746F7461, 0x6C207365, 0x61742020, 0x20202020, 0x20202020};
        useAll(Check.with("table 3;"), words);
        long before = bean.getThreadAllocatedBytes(thread);
        TalkCoopers x = Check.with("table 5;guest a at 0 wet 9 hot 2;guest b at 1 wet 4 hot 1;toast 30;");
        for (int k = 0; k < 16; k++) {
            useAll(x, words);
        }
        long made = bean.getThreadAllocatedBytes(thread) - before;
        Check.due("bytes made by an object and its calls (" + made + ") have room", made < ROOM_BYTES, true);
    }

    private static void useAll(TalkCoopers x, int[] words) {
        x.feed(words[0], words[1], words[2], words[3], words[4]);
        x.ask();
        x.feed(words[0], words[1], words[2], words[3], words[4]);
        x.table();
        x.feed(0, 0, 0, 0, 0);
        x.end(3);
        x.hear();
        x.later(0, 60);
        x.bursts(0);
        x.burst(60);
        x.hoops(30);
        x.change(30, 0);
        x.seating(10, 0);
        x.tun(5);
        x.row();
        x.wets(0);
        x.tells(0, 0);
        x.drive(0, 1);
        x.drive(0, 0);
        x.sit(0, 3);
        x.sit(0, 0);
        x.say(0, 5);
        x.minutes(5);
        x.chance(5);
        x.undo();
        x.seed(5);
        x.image();
        x.octet(1);
        x.on();
        x.kept(0, 0);
        x.has(4);
    }
}

import java.io.IOException;
import java.lang.reflect.Method;
import java.lang.reflect.Modifier;
import java.nio.charset.StandardCharsets;
import java.nio.file.DirectoryStream;
import java.nio.file.Files;
import java.nio.file.Path;

/** README.md tells how things stand: its example, the face, what goes on the tape, what is refused, the tests. */
public final class ReadmeTest {
    private static String page = "";

    public static void main(String[] args) throws IOException {
        Path root = Path.of(System.getProperty("root", "."));
        page = Files.readString(root.resolve("README.md"), StandardCharsets.UTF_8);
        example();
        textsOnTheTape();
        rowsOnTheTape();
        eachCall();
        eachRefusal();
        eachTest(root.resolve("src/test/java"));
        Check.close("ReadmeTest");
    }

    private static void stands(String words) {
        Check.due("README.md tells " + words, page.contains(words), true);
    }

    private static void example() {
        TalkCoopers x = new TalkCoopers();
        stands("x.feed(0x7461626C, 0x6520353B, 0x67756573, 0x7420616E, 0x6E206174);");
        x.feed(0x7461626C, 0x6520353B, 0x67756573, 0x7420616E, 0x6E206174);
        stands("x.feed(0x20302077, 0x65742039, 0x20686F74, 0x20323B20, 0x20202020);");
        x.feed(0x20302077, 0x65742039, 0x20686F74, 0x20323B20, 0x20202020);
        stands("x.end(35);");
        x.end(35);
        stands("int statements = x.table();   // 2;");
        Check.due("table()", x.table(), 2);
        stands("int swell = x.later(0, 5);    // 45:");
        Check.due("later(0, 5)", x.later(0, 5), 45);
        stands("int burst = x.minutes(6);     // 1:");
        Check.due("minutes(6)", x.minutes(6), 1);
        stands("x.feed(0x746F7461, 0x6C207377, 0x656C6C2B, 0x39202020, 0x20202020);");
        x.feed(0x746F7461, 0x6C207377, 0x656C6C2B, 0x39202020, 0x20202020);
        stands("x.end(13);");
        x.end(13);
        stands("long answer = x.ask();        // 9:");
        Check.due("ask()", x.ask(), 9);
    }

    private static void textsOnTheTape() {
        String table = "table 5; guest ann at 0 wet 4 hot 2; hoop 3; swells wet+left/4-hooped; "
                + "starts swell>14 and load>20; spills size/3+hot; toast 50;";
        stands('`' + table + '`');
        Check.dueTable(table, 7);
        String question = "often swell>20 and not far 0=1";
        stands('`' + question + '`');
        Check.dueAsk(Check.with(table), question, 0);
    }

    private static void rowsOnTheTape() {
        TalkCoopers x = Check.with("table 5; guest ann at 0 wet 9 hot 2;");
        stands("`2 0 15`");
        Check.due("hear() of 2 0 15", Check.hear(x, 2, 0, 15), 1);
        x.minutes(3);
        int[] image = Check.image(x);
        x.minutes(3);
        Check.due("on() of what image() wrote", Check.on(x, image), true);
        Check.due("the minute of the image", x.has(3), 3);
        Check.due("what was heard stays", x.has(6), 1);
    }

    private static void eachCall() {
        for (Method m : TalkCoopers.class.getDeclaredMethods()) {
            if (!Modifier.isPublic(m.getModifiers())) {
                continue;
            }
            int row = page.indexOf("\n| `" + m.getName() + "(");
            Check.due("README.md has a row for " + m.getName(), row >= 0, true);
            if (row >= 0) {
                String call = page.substring(row, page.indexOf(")` |", row));
                String between = call.substring(call.indexOf('(') + 1);
                int told = between.isEmpty() ? 0 : between.split(",").length;
                Check.due("arguments of " + m.getName(), told, m.getParameterCount());
            }
        }
    }

    /** Each call that status() counts, refused once without a table, and its row. */
    private static void eachRefusal() {
        TalkCoopers x = new TalkCoopers();
        refused(x, 0, "`end()`", "`false`", x.end(1) ? 1 : 0, 0);
        refused(x, 1, "`table()`", "`NONE`", x.table(), TalkCoopers.NONE);
        refused(x, 1, "`hear()`", "`NONE`", x.hear(), TalkCoopers.NONE);
        refused(x, 2, "`drive()`, `sit()`, `say()`", "`false`", x.drive(0, 1) ? 1 : 0, 0);
        refused(x, 3, "`minutes()`, `chance()`", "`NONE`", x.minutes(1), TalkCoopers.NONE);
        refused(x, 4, "`undo()`", "`false`", x.undo() ? 1 : 0, 0);
        refused(x, 5, "`seed()`", "`false`", x.seed(-1) ? 1 : 0, 0);
        refused(x, 5, "`on()`", "`false`", x.on() ? 1 : 0, 0);
        Check.tape(x, new int[1600]);
        refused(x, 0, "`feed()`", "`NONE`", x.feed(0, 0, 0, 0, 0), TalkCoopers.NONE);
        int[] due = {2, 2, 1, 1, 1, 2};
        for (int what = 0; what < due.length; what++) {
            Check.due("status(" + what + ")", x.status(what), due[what]);
        }
    }

    private static void refused(TalkCoopers x, int what, String calls, String answer, int got, int want) {
        Check.due(calls + " is refused", got, want);
        Check.due(calls + " is counted", x.status(what) > 0, true);
        int row = page.indexOf("\n| " + what + " | " + calls + " | ");
        Check.due("README.md has a row for " + calls + " refused", row >= 0, true);
        if (row >= 0) {
            String line = page.substring(row + 1, page.indexOf('\n', row + 1));
            Check.due(line + " tells " + answer, line.endsWith(" | " + answer + " |"), true);
        }
    }

    private static void eachTest(Path folder) throws IOException {
        try (DirectoryStream<Path> tests = Files.newDirectoryStream(folder, "*Test.java")) {
            for (Path test : tests) {
                stands(test.getFileName().toString().replace(".java", ""));
            }
        }
        stands(".ci/run");
    }
}

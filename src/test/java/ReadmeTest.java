import java.io.IOException;
import java.lang.reflect.Method;
import java.lang.reflect.Modifier;
import java.nio.file.Files;
import java.nio.file.Path;
import java.util.List;

/** What README.md shows is so: its example answers what it says, and it names every call and every test. */
public final class ReadmeTest {
    private static final String TEXT = "people 3; pairs 2; fan 0 1 2; fan 1 1 queen; fan 2 2; draws 0 size-1; holds 1 0;";

    private final Checks c = new Checks();
    private final String readme;

    private ReadmeTest(String readme) {
        this.readme = readme;
    }

    public static void main(String[] args) throws IOException {
        ReadmeTest t = new ReadmeTest(Files.readString(Path.of("README.md")));
        t.feeding();
        t.example();
        t.names();
        t.c.end("ReadmeTest");
    }

    private void feeding() {
        c.about("README: bytes");
        SootQueen x = new SootQueen();
        shown("feed", "x.feed(0x70656f70, 0x6c652034, 0x3b736565, 0x64203737, 0x3b202020)",
            x.feed(0x70656f70, 0x6c652034, 0x3b736565, 0x64203737, 0x3b202020), 20);
        shown("table", "x.table(20)", x.table(20), 0);
        shown("people", "x.count(0)", x.count(0), 4);
        shown("seed", "x.count(2)", x.count(2), 77);
    }

    private void example() {
        c.about("README: example");
        SootQueen x = c.told(TEXT);
        c.yes("the text stands there", readme.contains(TEXT));
        shown("from whom", "x.person(0, 0)", x.person(0, 0), 1);
        shown("his place", "x.person(0, 1)", x.person(0, 1), 1);
        shown("loser", "x.ends(0)", x.ends(0), 1);
        shown("upper", "x.blind(0, 1, 0)", x.blind(0, 1, 0), 1);
        shown("lower", "x.blind(0, 1, 1)", x.blind(0, 1, 1), 2);
        shown("arrangements", "x.belief(2, SootQueen.NONE)", x.belief(2, SootQueen.NONE), 8);
        shown("draw", "x.draw(0)", x.draw(0), 101);
        shown("less", "x.belief(2, 1)", x.belief(2, 1), 2);
        shown("refused", "x.draw(9)", x.draw(9), SootQueen.NONE);
        shown("undo", "x.undo()", x.undo(), 0);
    }

    /** The call stands in the README with its answer, and that is what it answers. */
    private void shown(String what, String call, long got, long due) {
        c.eq(call, got, due);
        boolean there = readme.lines().anyMatch(l -> l.contains(call + ";") && l.matches(".*// " + due + "\\b.*"));
        c.yes(what + ": README shows " + call + " with " + due, there);
    }

    private void names() throws IOException {
        c.about("README: names");
        for (Method m : SootQueen.class.getDeclaredMethods()) {
            if (Modifier.isPublic(m.getModifiers())) {
                c.yes("README tells of " + m.getName(), readme.contains("`" + m.getName() + "("));
            }
        }
        try (var files = Files.list(Path.of("src/test/java"))) {
            List<String> tests = files.map(f -> f.getFileName().toString().replace(".java", ""))
                .filter(n -> n.endsWith("Test") && !n.matches("Promise\\d\\dTest")).toList();
            for (String test : tests) {
                c.yes("README tells of " + test, readme.contains("`" + test + "`"));
            }
        }
    }
}

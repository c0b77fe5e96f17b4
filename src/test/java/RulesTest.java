import java.io.IOException;
import java.lang.reflect.Constructor;
import java.lang.reflect.Field;
import java.lang.reflect.Method;
import java.lang.reflect.Modifier;
import java.nio.file.Files;
import java.nio.file.Path;
import java.util.ArrayList;
import java.util.Arrays;
import java.util.List;
import java.util.Set;
import java.util.TreeSet;
import java.util.regex.Matcher;
import java.util.regex.Pattern;

/** The face as the document declares it, and what of LANGUAGE.md can be seen from the text and the class. */
public final class RulesTest {
    private static final String FACE = """
        int feed(int,int,int,int,int)
        int table(int) IllegalArgumentException
        int fault()
        int count(int) NoSuchElementException
        int fan(int,int) NoSuchElementException
        int person(int,int) NoSuchElementException
        int draw(int)
        int play(int) IllegalArgumentException
        int undo()
        int ends(int) NoSuchElementException
        int has(int,boolean) NoSuchElementException
        long blind(int,int,int) NoSuchElementException IllegalArgumentException
        long two(int,boolean,int) NoSuchElementException IllegalArgumentException
        int belief(int,int) NoSuchElementException
        long peeped(int,int) NoSuchElementException
        int hold(int,int,int) NoSuchElementException IllegalArgumentException
        int choose(int,int) NoSuchElementException
        int seats(int,int) NoSuchElementException
        int evenings(int,int,int,boolean,int) NoSuchElementException IllegalArgumentException
        int wouldLose(int) NoSuchElementException
        int isOut(int) NoSuchElementException
        int rank(int) NoSuchElementException
        int habit(int,int) NoSuchElementException
        int face(int,int,int) NoSuchElementException IllegalArgumentException
        void image()
        boolean restore()
        """;
    private static final List<String> NEVER = List.of("->", "::", "finally", "synchronized", "assert", "Exact", "catch",
        "try", "System.", "hashCode", "toString", "instanceof", "protected", "package ", "Random", "Thread", "getMessage",
        "static {", "var ", "\" +", "+ \"");

    private final Checks c = new Checks();
    private final Set<String> names = new TreeSet<>();

    public static void main(String[] args) throws IOException {
        RulesTest t = new RulesTest();
        t.face();
        t.classes();
        t.text(Files.readString(Path.of("src/main/java/SootQueen.java")));
        t.c.end("RulesTest");
    }

    private void face() {
        c.about("the public face");
        Set<String> due = new TreeSet<>(Arrays.asList(FACE.strip().split("\\s*\n\\s*")));
        Set<String> got = new TreeSet<>();
        for (Method m : SootQueen.class.getDeclaredMethods()) {
            if (Modifier.isPublic(m.getModifiers())) {
                names.add(m.getName());
                StringBuilder s = new StringBuilder(m.getReturnType() + " " + m.getName() + "(");
                s.append(String.join(",", Arrays.stream(m.getParameterTypes()).map(Class::getName).toList())).append(")");
                Arrays.stream(m.getExceptionTypes()).forEach(e -> s.append(" ").append(e.getSimpleName()));
                got.add(s.toString());
                c.yes(m.getName() + " isn't static", !Modifier.isStatic(m.getModifiers()));
            }
        }
        due.stream().filter(d -> !got.contains(d)).forEach(d -> c.yes(d + " is there", false));
        got.stream().filter(g -> !due.contains(g)).forEach(g -> c.yes(g + " isn't promised", false));
        c.eq("methods", got.size(), 26);
        c.yes("public and final", SootQueen.class.getModifiers() == (Modifier.PUBLIC | Modifier.FINAL));
        Constructor<?>[] made = SootQueen.class.getDeclaredConstructors();
        c.yes("one constructor, public, without arguments", made.length == 1 && made[0].getParameterCount() == 0
            && Modifier.isPublic(made[0].getModifiers()));
    }

    private void classes() {
        c.about("rules 1, 5, 11");
        List<Class<?>> all = new ArrayList<>(List.of(SootQueen.class));
        all.addAll(Arrays.asList(SootQueen.class.getDeclaredClasses()));
        c.yes("some twelve classes", all.size() <= 12);
        for (Class<?> k : all) {
            int fields = 0;
            for (Field f : k.getDeclaredFields()) {
                boolean isStatic = Modifier.isStatic(f.getModifiers());
                fields += isStatic ? 0 : 1;
                c.yes(f + ", static, is final", !isStatic || Modifier.isFinal(f.getModifiers()));
                c.yes(f + " is private", Modifier.isPrivate(f.getModifiers())
                    || k == SootQueen.class && f.getName().equals("NONE"));
            }
            c.yes(k + " has some twenty fields: " + fields, fields <= 20);
            for (Method m : k.getDeclaredMethods()) {
                boolean face = k == SootQueen.class && Modifier.isPublic(m.getModifiers());
                c.yes(m + " bears no name of the face", face || !names.contains(m.getName()));
                c.yes(m + " is private or of the face", k != SootQueen.class || face || Modifier.isPrivate(m.getModifiers()));
                c.yes(m + " has at most seven parameters", m.getParameterCount() <= 7);
                c.yes(m + " is the program's own", !m.isSynthetic());
            }
            c.yes(k + " is static and not public", k == SootQueen.class
                || Modifier.isStatic(k.getModifiers()) && !Modifier.isPublic(k.getModifiers()));
        }
    }

    private void text(String source) {
        c.about("rules 4, 6, 10, 11");
        String code = source.replaceAll("(?s)/\\*.*?\\*/", "").replaceAll("//[^\n]*", "");
        for (String word : NEVER) {
            boolean letters = Character.isLetter(word.charAt(0)) && Character.isLetter(word.charAt(word.length() - 1));
            String shape = letters ? "\\b" + word + "\\b" : Pattern.quote(word);
            c.yes("'" + word + "' isn't used", !Pattern.compile(shape).matcher(code).find());
        }
        Matcher imports = Pattern.compile("import ([^;]*);").matcher(code);
        while (imports.find()) {
            c.yes("import " + imports.group(1), imports.group(1).equals("java.util.NoSuchElementException"));
        }
        Matcher thrown = Pattern.compile("throw ([^;]*);").matcher(code);
        while (thrown.find()) {
            c.yes("throw " + thrown.group(1), thrown.group(1).matches("new (NoSuchElement|IllegalArgument)Exception\\(\\)"));
        }
        Matcher math = Pattern.compile("Math\\.(\\w+)").matcher(code);
        while (math.find()) {
            c.yes("Math." + math.group(1), List.of("min", "max", "floorMod").contains(math.group(1)));
        }
        for (char sign : source.toCharArray()) {
            if (sign > 126) {
                c.yes("sign " + (int) sign, false);
            }
        }
        lengths(source);
    }

    private void lengths(String source) {
        String[] lines = source.split("\n");
        int start = -1;
        String indent = "";
        for (int i = 0; i < lines.length; i++) {
            boolean opens = lines[i].matches(" {4,8}\\S.*\\) ?.*\\{") && !lines[i].matches(" +(for|if|while|switch) .*")
                || lines[i].matches(" {12}throws .*\\{");
            if (opens) {
                start = i;
                indent = lines[i].replaceAll("\\S.*", "");
                indent = indent.length() == 12 ? "    " : indent;
            }
            if (start >= 0 && lines[i].equals(indent + "}")) {
                c.yes("line " + (start + 1) + ": a method of " + (i - start) + " lines", i - start <= 60);
                start = -1;
            }
        }
    }
}

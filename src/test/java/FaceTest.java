import java.io.IOException;
import java.lang.reflect.Constructor;
import java.lang.reflect.Field;
import java.lang.reflect.Method;
import java.lang.reflect.Modifier;
import java.nio.charset.StandardCharsets;
import java.nio.file.Files;
import java.nio.file.Path;
import java.util.ArrayList;
import java.util.HashSet;
import java.util.List;
import java.util.Set;
import java.util.TreeSet;

/** The face is the document's, and the file keeps to what a machine can see of LANGUAGE.md. */
public final class FaceTest {
    private static final String[] FACE = {"int sign(int)", "boolean end(int)", "int things()", "int strings()",
        "int winds()", "int rule()", "int thing(int,int) throws java.util.NoSuchElementException",
        "int sheet(int,int,int,int)", "int hours(int)", "int lends(int,int)", "int gives(int,int)",
        "int ties(int,int)", "int pays(int)", "int digs(int)", "int night()", "int undo()", "int floats()",
        "int spare(int)", "int height(int,int)", "int gone(int)", "int ahead(int)", "int least(int)",
        "int surplus()", "int vital()", "int tie()", "int binds()", "int way(int,int)", "int serves()",
        "int owes(int)", "int seen(int,int,int)", "int forget()", "int fits()", "int looks()", "int lifts(int)",
        "int just(int)", "int evens()", "int order()", "int storm(int,int)", "int run(int,int)", "int law()",
        "int rests(int)", "int years(int,int)", "boolean keep(int)", "boolean again(int)", "int count(int)",
        "long row(int) throws java.util.NoSuchElementException"};
    private static final Path SOURCE = Path.of("src/main/java/BorrowedWeight.java");

    public static void main(String[] args) throws IOException {
        face();
        nested();
        source(Files.readString(SOURCE, StandardCharsets.US_ASCII));
        Check.close("FaceTest");
    }

    private static void face() {
        Class<?> c = BorrowedWeight.class;
        Check.yes("public and final", Modifier.isPublic(c.getModifiers()) && Modifier.isFinal(c.getModifiers()));
        Set<String> got = new TreeSet<>();
        Set<String> names = new HashSet<>();
        for (Method m : c.getDeclaredMethods()) {
            if (!Modifier.isPrivate(m.getModifiers()) && !m.isSynthetic()) {
                got.add(m.toString().replace("public ", "").replace("BorrowedWeight.", ""));
                names.add(m.getName());
            }
        }
        Check.yes("the methods of the face: " + got, got.equals(new TreeSet<>(List.of(FACE))));
        for (Method m : c.getDeclaredMethods()) {
            boolean clash = Modifier.isPrivate(m.getModifiers()) && names.contains(m.getName());
            Check.no("a private method bears a public name: " + m.getName(), clash);
        }
        List<String> fields = new ArrayList<>();
        for (Field f : c.getDeclaredFields()) {
            if (!Modifier.isPrivate(f.getModifiers()) && !f.isSynthetic()) {
                fields.add(f.toString());
            }
        }
        Check.due("fields that can be seen: " + fields, fields.size(), 1);
        Check.yes("NONE", fields.contains("public static final int BorrowedWeight.NONE"));
        Constructor<?>[] made = c.getDeclaredConstructors();
        Check.due("constructors", made.length, 1);
        Check.yes("constructor", made[0].toString().equals("public BorrowedWeight()"));
    }

    private static void nested() {
        Class<?>[] inside = BorrowedWeight.class.getDeclaredClasses();
        Check.yes("at most twelve classes", inside.length + 1 <= 12);
        for (Class<?> c : inside) {
            int seen = c.getModifiers();
            Check.no(c + " can be seen", Modifier.isPublic(seen) || Modifier.isProtected(seen));
            Check.yes(c + " is static", Modifier.isStatic(seen));
            fields(c);
        }
        fields(BorrowedWeight.class);
    }

    private static void fields(Class<?> c) {
        int own = 0;
        for (Field f : c.getDeclaredFields()) {
            boolean isStatic = Modifier.isStatic(f.getModifiers());
            own += isStatic || f.isSynthetic() ? 0 : 1;
            Check.yes(f + " is final", !isStatic || Modifier.isFinal(f.getModifiers()));
        }
        Check.yes("at most twenty fields in " + c, own <= 20);
        for (Method m : c.getDeclaredMethods()) {
            Check.yes("at most seven parameters: " + m, m.getParameterCount() <= 7);
        }
    }

    private static void source(String whole) {
        String code = whole.replaceAll("(?s)/\\*.*?\\*/", "").replaceAll("//[^\n]*", "").replaceAll("\"[^\"]*\"", "\"\"");
        for (String no : new String[] {"->", "::", "\\bfinally\\b", "\\btry\\b", "\\bcatch\\b", "\\bsynchronized\\b",
            "\\bassert\\b", "\\bSystem\\.", "\\bThread\\b", "\\bRandom\\b", "while \\(true\\)", "for \\(;;\\)",
            "Exact\\(", "\\bdouble\\b", "\\bfloat\\b", "\\bimport (?!java\\.util\\.NoSuchElementException;)"}) {
            Check.no("the file has " + no, java.util.regex.Pattern.compile(no).matcher(code).find());
        }
        String[] lines = code.split("\n");
        int start = -1;
        for (int i = 0; i < lines.length; i++) {
            if (lines[i].matches("(    |        )[A-Za-z].*\\) .*\\{|(    |        )[A-Za-z].*\\) \\{")) {
                start = i;
            }
            if (start >= 0 && lines[i].matches("(    |        )\\}") && indent(lines[i]) == indent(lines[start])) {
                Check.yes("at most sixty lines: " + lines[start].trim(), i - start + 1 <= 60);
                start = -1;
            }
            boolean makes = lines[i].contains("new ");
            boolean inMethod = start >= 0 && !lines[start].matches(" +(public )?[A-Z][A-Za-z]*\\(\\) \\{");
            Check.no("made in a call: " + lines[i].trim(), makes && inMethod && !lines[i].contains("throw new "));
        }
    }

    private static int indent(String line) {
        return line.length() - line.stripLeading().length();
    }
}

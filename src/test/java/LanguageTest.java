import java.io.IOException;
import java.lang.reflect.Constructor;
import java.lang.reflect.Field;
import java.lang.reflect.Method;
import java.lang.reflect.Modifier;
import java.nio.file.Files;
import java.nio.file.Path;
import java.util.ArrayList;
import java.util.Arrays;
import java.util.List;
import java.util.Set;
import java.util.TreeSet;
import java.util.regex.Matcher;
import java.util.regex.Pattern;

/** The rules of LANGUAGE.md that can be seen from the class and its text, and the document's face. */
public final class LanguageTest {
    private static final String[] FACE = {
        "int link(int, int)", "int come(int, int, int, int, int)", "int go(int)", "int change(int, int, int)",
        "int hold(int, boolean)", "int route(int, int)", "int lose(int, int)", "int hop(int)", "int letter(int)",
        "int rounds(int)", "int forget()", "boolean keep(int)", "boolean again(int)", "int links(int, int)",
        "int flow(int, int) throws NoSuchElementException", "int named(int)",
        "int fair(int, int) throws NoSuchElementException", "int used(int, int)", "int water(int)",
        "int step(int, int)", "int ranked(int)", "int proof(int, int) throws NoSuchElementException",
        "int fullest(int)", "long even(int)", "int advertised(int)", "int pass(int, int)",
        "int known(int, int, int)", "int booked(int)", "int over()", "int settling(int)",
        "int swings(int, int, int)", "int peak(int, int)", "long off()", "int would(int, int, int, int)",
        "int better(int, int)", "int spares(int, int)", "int weightFor(int, int)", "int roomFor(int)",
        "int touched(int)", "int without(int, int)", "int wider(int, int, int)", "int tight()", "int enough(int)",
        "int storm(int, int, int)", "int count(int)"};

    private static final String[] NOT_ALLOWED = {"->", "::", "\\btry\\b", "\\bcatch\\b", "\\bfinally\\b",
        "\\bsynchronized\\b", "\\bassert\\b", "\\binstanceof\\b", "Exact\\b", "\\bdouble\\b", "\\bfloat\\b",
        "\\bpackage\\b", "\\bthread", "\\bSystem\\.(?!arraycopy)", "\\bstatic \\{",
        "\\bInteger\\.(?!bitCount\\(|numberOfTrailingZeros\\()", "\\bLong\\.", "\\bMath\\.(?!min\\(|max\\(|abs\\()",
        "\\bArrays\\.(?!fill\\()"};

    private LanguageTest() {
    }

    private static String signature(Method m) {
        List<String> types = new ArrayList<>();
        for (Class<?> c : m.getParameterTypes()) {
            types.add(c.getSimpleName());
        }
        StringBuilder text = new StringBuilder();
        text.append(m.getReturnType().getSimpleName()).append(' ').append(m.getName());
        text.append('(').append(String.join(", ", types)).append(')');
        for (Class<?> c : m.getExceptionTypes()) {
            text.append(" throws ").append(c.getSimpleName());
        }
        return text.toString();
    }

    /** FACE is the document's, word by word. */
    private static void faceOfDocument() {
        Pattern call = Pattern.compile("public (\\w+ \\w+)\\(([^)]*)\\)( throws \\w+)?;");
        Set<String> due = new TreeSet<>();
        for (String line : Document.lines("The public face")) {
            Matcher m = call.matcher(line.trim());
            if (m.matches()) {
                String types = m.group(2).replaceAll("(\\w+) \\w+", "$1");
                due.add(m.group(1) + "(" + types + ")" + (m.group(3) == null ? "" : m.group(3)));
            }
        }
        if (!due.isEmpty()) {
            Due.text("rule 1: the document's face", new TreeSet<>(Arrays.asList(FACE)).toString(), due.toString());
        }
    }

    private static void face() {
        Set<String> got = new TreeSet<>();
        for (Method m : FairRates.class.getDeclaredMethods()) {
            if (Modifier.isPublic(m.getModifiers())) {
                got.add(signature(m));
                Due.no("rule 1: static " + m.getName(), Modifier.isStatic(m.getModifiers()));
            } else {
                Due.yes("rule 1: private " + m.getName(), Modifier.isPrivate(m.getModifiers()));
            }
        }
        Set<String> due = new TreeSet<>(Arrays.asList(FACE));
        for (String s : due) {
            Due.yes("rule 1: the face has " + s, got.contains(s));
        }
        for (String s : got) {
            Due.yes("rule 1: the document has " + s, due.contains(s));
        }
        Due.yes("rule 1: final", Modifier.isFinal(FairRates.class.getModifiers()));
        for (Constructor<?> c : FairRates.class.getDeclaredConstructors()) {
            Due.yes("rule 1: constructor", Modifier.isPublic(c.getModifiers()) && c.getParameterCount() == 0);
        }
        for (Field f : FairRates.class.getDeclaredFields()) {
            Due.yes("rule 1: field " + f.getName(), Modifier.isPrivate(f.getModifiers()) || f.getName().equals("NONE"));
        }
    }

    private static void insides(Class<?> c) {
        Set<String> publicNames = new TreeSet<>();
        for (String s : FACE) {
            publicNames.add(s.substring(s.indexOf(' ') + 1, s.indexOf('(')));
        }
        int fields = 0;
        for (Field f : c.getDeclaredFields()) {
            boolean isStatic = Modifier.isStatic(f.getModifiers());
            fields += isStatic ? 0 : 1;
            Due.yes("rule 5: " + f, !isStatic || Modifier.isFinal(f.getModifiers()) && f.getType() == int.class);
        }
        Due.yes("rule 11: fields of " + c, fields <= 20);
        for (Method m : c.getDeclaredMethods()) {
            Due.yes("rule 11: parameters of " + m, m.getParameterCount() <= 7);
            boolean isPublic = Modifier.isPublic(m.getModifiers());
            Due.yes("rule 1: name of " + m, isPublic || !publicNames.contains(m.getName()));
        }
        for (Class<?> inside : c.getDeclaredClasses()) {
            Due.yes("rule 1: " + inside, Modifier.isStatic(inside.getModifiers()));
            insides(inside);
        }
    }

    private static void text(String source) {
        String code = source.replaceAll("(?s)/\\*.*?\\*/", "").replaceAll("//[^\n]*", "").replaceAll("\"[^\"]*\"", "\"\"");
        for (String pattern : NOT_ALLOWED) {
            Due.no("rules 2 to 6: " + pattern, Pattern.compile(pattern).matcher(code).find());
        }
        for (char c : source.toCharArray()) {
            if (c > 127) {
                Due.same("rule 3: a sign", c, 127);
            }
        }
        Matcher imports = Pattern.compile("import ([^;]*);").matcher(code);
        while (imports.find()) {
            String name = imports.group(1);
            Due.yes("rule 4: import " + name, name.equals("java.util.Arrays") || name.equals("java.util.NoSuchElementException"));
        }
        made(code);
        lengths(code);
    }

    /** The room of a run is one: nothing is made but the rows of an object, when it is made. */
    private static void made(String code) {
        for (String line : code.split("\n")) {
            boolean isMade = line.contains("new ") && !line.contains("throw new NoSuchElementException(");
            boolean isRow = line.matches(" +(private )?final \\S+ \\w+ = new [^;]*;");
            Due.yes("rule 12: " + line, !isMade || isRow);
        }
    }

    private static void lengths(String code) {
        int depth = 0;
        int from = 0;
        String[] lines = code.split("\n");
        for (int i = 0; i < lines.length; i++) {
            String line = lines[i];
            boolean begins = line.matches(" {4,8}[\\w\\[\\] ]+\\([^;]*\\{") && !line.contains("=");
            if (begins) {
                from = i;
            }
            boolean ends = line.equals("    }") || line.equals("        }");
            if (ends && from > 0) {
                Due.yes("rule 11: lines up to " + (i + 1), i - from <= 60);
                depth++;
                from = 0;
            }
        }
        Due.yes("rule 11: methods were found", depth > 100);
    }

    public static void main(String[] args) throws IOException {
        faceOfDocument();
        face();
        insides(FairRates.class);
        String place = System.getProperty("fairrates.source", "src/main/java/FairRates.java");
        text(Files.readString(Path.of(place)));
        Due.end();
    }
}

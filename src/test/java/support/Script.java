import java.lang.reflect.InvocationTargetException;
import java.lang.reflect.Method;
import java.lang.reflect.Modifier;
import java.util.ArrayList;
import java.util.HashMap;
import java.util.List;
import java.util.Map;
import java.util.TreeSet;

/**
 * Runs of calls written as text, each run under the sentence of the document that it is about. A line
 * is one or more calls with ';' between them; behind '->' stands what the last one has to answer:
 *
 *   link(0, 100); link(1, 60) -> 0
 *   come(7..9, 1, 1, 0, 5)    -> 0 1 2      an argument a..b: one call for each number
 *   links(0..9, 0)            -> 5*10       5, ten times; a..b stands for all from a to b here, too
 *   flow(0, 0)                -> throws     NoSuchElementException
 *   refused                   -> 0 1 0 0 0  calls REFUSED so far, by 0 to 4
 *   new                                     a new object
 *
 * NONE, MIN and MAX stand for their numbers; what follows // is for the reader. Every run is done by
 * FairRates and by Plain, so that neither the run nor Plain can leave the document unseen.
 */
final class Script {
    private static final int MOST_CALLS = 512;
    private static final TreeSet<Integer> PROMISES = new TreeSet<>();
    private static final Map<Class<?>, Map<String, Method>> FACES = new HashMap<>();

    private final Class<?> kind;
    private final String title;
    private Object object;
    private int calls;

    private Script(Class<?> kind, String title) {
        this.kind = kind;
        this.title = title;
        object = fresh();
    }

    /** A run about a sentence of a promise. */
    static void promise(int number, String sentence, String text) {
        PROMISES.add(number);
        terms(number + ": " + sentence, text);
    }

    /** A run about a sentence of the document's terms. */
    static void terms(String sentence, String text) {
        for (Class<?> kind : new Class<?>[] {FairRates.class, Plain.class}) {
            Script script = new Script(kind, kind.getSimpleName() + ", " + sentence);
            for (String line : text.split("\n")) {
                script.line(line.replaceAll("//.*", "").trim());
            }
        }
    }

    /** Calls an object that a test has made; what its calls answer is not looked at. */
    static void calls(FairRates object, String text) {
        Script script = new Script(FairRates.class, "calls");
        script.object = object;
        for (String line : text.split("\n")) {
            script.line(line.trim());
        }
    }

    /** Whether each promise from one to another one has had a run. */
    static void allHadRuns(int from, int to) {
        for (int n = from; n <= to; n++) {
            Due.yes("promise " + n + " has a run", PROMISES.contains(n));
        }
    }

    /** The answer of one call, written out. */
    static String answer(Object object, String name, Object... arguments) {
        Method method = face(object.getClass()).get(name);
        if (method == null) {
            throw new IllegalArgumentException("no call " + name);
        }
        try {
            return String.valueOf(method.invoke(object, arguments));
        } catch (InvocationTargetException e) {
            boolean isDue = e.getCause() instanceof java.util.NoSuchElementException;
            return isDue ? "throws" : "throws " + e.getCause();
        } catch (IllegalAccessException e) {
            throw new IllegalStateException(e);
        }
    }

    private static Map<String, Method> face(Class<?> kind) {
        return FACES.computeIfAbsent(kind, k -> {
            Map<String, Method> found = new HashMap<>();
            for (Method m : k.getDeclaredMethods()) {
                boolean isHidden = Modifier.isPrivate(m.getModifiers()) || Modifier.isStatic(m.getModifiers());
                if (!isHidden && !m.isSynthetic()) {
                    found.put(m.getName(), m);
                }
            }
            return found;
        });
    }

    private Object fresh() {
        calls = 0;
        return kind == FairRates.class ? new FairRates() : new Plain();
    }

    private void line(String line) {
        if (line.isEmpty()) {
            return;
        }
        int arrow = line.indexOf("->");
        String[] parts = (arrow < 0 ? line : line.substring(0, arrow)).split(";");
        for (int i = 0; i < parts.length; i++) {
            List<String> got = call(parts[i].trim());
            if (arrow >= 0 && i == parts.length - 1) {
                compare(parts[i].trim(), got, dues(line.substring(arrow + 2)));
            }
        }
    }

    private void compare(String call, List<String> got, List<String> due) {
        Due.same(title + ": " + call + ": answers", got.size(), due.size());
        for (int i = 0; i < Math.min(got.size(), due.size()); i++) {
            Due.text(title + ": " + call + " (" + i + ")", got.get(i), due.get(i));
        }
    }

    private List<String> call(String call) {
        if (call.equals("new")) {
            object = fresh();
            return new ArrayList<>();
        }
        String name = call.equals("refused") ? "count" : call.substring(0, call.indexOf('('));
        String arguments = call.equals("refused") ? "6..10" : call.substring(call.indexOf('(') + 1, call.length() - 1);
        List<List<String>> rows = new ArrayList<>();
        rows.add(new ArrayList<>());
        for (String argument : arguments.isBlank() ? new String[0] : arguments.split(",")) {
            rows = withEach(rows, dues(argument));
        }
        List<String> answers = new ArrayList<>();
        for (List<String> row : rows) {
            calls++;
            Due.yes(title + ": at most " + MOST_CALLS + " calls of an object", calls <= MOST_CALLS);
            answers.add(answer(object, name, row.stream().map(Script::value).toArray()));
        }
        return answers;
    }

    private static List<List<String>> withEach(List<List<String>> rows, List<String> values) {
        List<List<String>> longer = new ArrayList<>();
        for (List<String> row : rows) {
            for (String value : values) {
                List<String> one = new ArrayList<>(row);
                one.add(value);
                longer.add(one);
            }
        }
        return longer;
    }

    private static Object value(String text) {
        return text.equals("true") || text.equals("false") ? (Object) Boolean.valueOf(text) : (Object) Integer.valueOf(text);
    }

    private static String number(String text) {
        switch (text) {
            case "NONE": return "-1";
            case "MIN": return String.valueOf(Integer.MIN_VALUE);
            case "MAX": return String.valueOf(Integer.MAX_VALUE);
            default: return text.replace("_", "");
        }
    }

    private static List<String> dues(String text) {
        List<String> found = new ArrayList<>();
        for (String word : text.trim().split("\\s+")) {
            int dots = word.indexOf("..");
            int times = word.indexOf('*');
            if (dots > 0) {
                int to = Integer.parseInt(number(word.substring(dots + 2)));
                for (int n = Integer.parseInt(number(word.substring(0, dots))); n <= to; n++) {
                    found.add(String.valueOf(n));
                }
            } else if (times > 0) {
                for (int i = Integer.parseInt(word.substring(times + 1)); i > 0; i--) {
                    found.add(number(word.substring(0, times)));
                }
            } else {
                found.add(number(word));
            }
        }
        return found;
    }
}

import java.lang.reflect.InvocationTargetException;
import java.lang.reflect.Method;
import java.util.ArrayList;
import java.util.Arrays;
import java.util.HashMap;
import java.util.List;
import java.util.Map;
import java.util.Random;

/** All promises: runs of calls by fixed seeds, each answer compared with the one that Plain gives. */
public final class RandomRunsTest {
    private static final String[] CHANGES = {"link", "come", "come", "come", "go", "change", "change", "hold",
        "route", "lose", "hop", "hop", "hop", "letter", "letter", "rounds", "forget", "keep", "again"};
    private static final String[] QUESTIONS = {"links", "flow", "flow", "named", "fair", "fair", "used", "water",
        "step", "ranked", "proof", "fullest", "even", "advertised", "pass", "pass", "known", "known", "booked",
        "over", "settling", "swings", "peak", "off", "would", "better", "spares", "weightFor", "roomFor",
        "touched", "without", "wider", "tight", "enough", "storm", "count"};

    private static final Map<String, Method> REAL = methods(FairRates.class);
    private static final Map<String, Method> PLAIN = methods(Plain.class);

    private final Random random;
    private final int scale;
    private final int linkBits;
    private final int mostFlows;
    private final int wrongPercent;
    private final FairRates real = new FairRates();
    private final Plain plain = new Plain();
    private final List<String> done = new ArrayList<>();

    private RandomRunsTest(long seed) {
        random = new Random(seed);
        scale = new int[] {12, 60, 300, 5_000, 1_000_000}[random.nextInt(5)];
        linkBits = random.nextInt(3) == 0 ? 1023 : 1 + random.nextInt(1023);
        mostFlows = random.nextInt(4) == 0 ? 20 : 3 + random.nextInt(9);
        wrongPercent = random.nextInt(3) * 4;
    }

    private static Map<String, Method> methods(Class<?> c) {
        Map<String, Method> found = new HashMap<>();
        for (Method m : c.getDeclaredMethods()) {
            boolean ofFace = Arrays.asList(CHANGES).contains(m.getName()) || Arrays.asList(QUESTIONS).contains(m.getName());
            boolean isStatic = java.lang.reflect.Modifier.isStatic(m.getModifiers());
            if (ofFace && !isStatic && !m.isSynthetic()) {
                found.put(m.getName(), m);
            }
        }
        return found;
    }

    private int up(int bound) {
        return random.nextInt(bound);
    }

    private int amount() {
        switch (up(12)) {
            case 0: return 0;
            case 1: return scale;
            case 2: return up(10);
            default: return up(scale + 1);
        }
    }

    private int path() {
        int path = up(1024) & up(1024) & linkBits;
        if (path == 0) {
            path = Integer.lowestOneBit(linkBits);
        }
        return path;
    }

    private int least() {
        return up(3) == 0 ? up(1 + scale / 6) : 0;
    }

    private int flow() {
        return up(mostFlows);
    }

    private int odd() {
        int[] odd = {-1, 10, 11, 20, 21, 31, 32, 40, 41, 60, 61, 99, 100, 1023, 1024, -2, 3, 9, 0, 1,
            999_999, 1_000_000, 1_000_001, Integer.MAX_VALUE, Integer.MIN_VALUE};
        return odd[up(odd.length)];
    }

    private Object[] arguments(String call) {
        int link = up(5) == 0 ? up(10) : Integer.numberOfTrailingZeros(path());
        switch (call) {
            case "link": return new Object[] {link, amount()};
            case "come": {
                int least = least();
                return new Object[] {up(40), path(), 1 + (up(2) == 0 ? 0 : up(9)), least, Math.max(least, amount())};
            }
            case "go": case "hop": case "letter": return new Object[] {flow()};
            case "change": {
                int what = up(3);
                return new Object[] {flow(), what, what == 0 ? 1 + up(9) : what == 1 ? least() : amount()};
            }
            case "hold": return new Object[] {flow(), up(2) == 0};
            case "route": case "better": return new Object[] {flow(), path()};
            case "lose": return new Object[] {link, up(3)};
            case "rounds": return new Object[] {1 + up(4)};
            case "keep": case "again": return new Object[] {up(2)};
            case "links": case "used": return new Object[] {link, up(3)};
            case "flow": return new Object[] {flow(), up(9)};
            case "named": return new Object[] {up(40)};
            case "fair": return new Object[] {flow(), up(4)};
            case "proof": return new Object[] {flow(), up(3)};
            case "water": return new Object[] {up(4)};
            case "step": return new Object[] {up(5), up(4)};
            case "ranked": case "fullest": return new Object[] {up(8)};
            case "even": return new Object[] {up(2)};
            case "advertised": case "booked": case "touched": case "enough": return new Object[] {link};
            case "pass": return new Object[] {link, up(4) - 1};
            case "known": return new Object[] {flow(), link, up(3)};
            case "settling": return new Object[] {up(3)};
            case "swings": return new Object[] {flow(), 1 + up(up(6) == 0 ? 60 : 6), up(3)};
            case "peak": return new Object[] {link, 1 + up(up(6) == 0 ? 60 : 6)};
            case "would": {
                int least = least();
                return new Object[] {path(), 1 + up(9), least, Math.max(least, amount())};
            }
            case "spares": case "weightFor": return new Object[] {flow(), amount()};
            case "roomFor": return new Object[] {path()};
            case "without": return new Object[] {flow(), flow()};
            case "wider": return new Object[] {link, amount(), up(2)};
            case "storm": return new Object[] {up(1_000_000), 1 + up(up(6) == 0 ? 40 : 8), up(3)};
            case "count": return new Object[] {up(14)};
            default: return new Object[0];
        }
    }

    private Object[] withWrongOnes(Object[] arguments) {
        for (int i = 0; i < arguments.length; i++) {
            if (arguments[i] instanceof Integer && up(100) < wrongPercent) {
                arguments[i] = odd();
            }
        }
        return arguments;
    }

    private static String answer(Method m, Object object, Object[] arguments) throws IllegalAccessException {
        try {
            return String.valueOf(m.invoke(object, arguments));
        } catch (InvocationTargetException e) {
            return "throws." + e.getCause().getClass().getSimpleName();
        }
    }

    /** Links first, then flows, then anything. */
    private String nextCall(int i) {
        if (i < 10) {
            return "link";
        }
        if (i < 10 + mostFlows) {
            return "come";
        }
        String call = up(100) < 45 ? CHANGES[up(CHANGES.length)] : QUESTIONS[up(QUESTIONS.length)];
        if ((call.equals("forget") || call.equals("again") || call.equals("link")) && up(3) != 0) {
            return "rounds";
        }
        if (call.equals("go") && up(2) == 0 || call.equals("come") && real.count(0) >= mostFlows && up(10) != 0) {
            return "letter";
        }
        return call;
    }

    /** Whether all answers were as due. */
    private boolean run(int calls) throws IllegalAccessException {
        for (int i = 0; i < calls; i++) {
            String call = nextCall(i);
            Object[] arguments = i < 10 ? new Object[] {i, up(4) == 0 ? amount() : scale / 2 + up(1 + scale / 2)}
                    : withWrongOnes(arguments(call));
            String got = answer(REAL.get(call), real, arguments);
            String due = answer(PLAIN.get(call), plain, arguments);
            done.add(call + Arrays.toString(arguments) + " " + got);
            if (!got.equals(due)) {
                System.out.println(String.join("\n", done));
                System.out.println("due is " + due);
                return false;
            }
        }
        return true;
    }

    public static void main(String[] args) throws IllegalAccessException {
        long from = args.length > 0 ? Long.parseLong(args[0]) : 0;
        long runs = args.length > 1 ? Long.parseLong(args[1]) : 300;
        for (long seed = from; seed < from + runs; seed++) {
            if (!new RandomRunsTest(seed).run(500)) {
                System.out.println("seed " + seed);
                System.exit(1);
            }
        }
        System.out.println(runs + " runs are as due");
    }
}

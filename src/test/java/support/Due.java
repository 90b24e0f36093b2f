import java.util.NoSuchElementException;
import java.util.concurrent.Callable;

/** Compares answers with those that are due; prints each that is not, and ends with code 1 then. */
final class Due {
    private static int wrong = 0;
    private static int checks = 0;

    private Due() {
    }

    static void same(String call, long got, long want) {
        checks++;
        if (got != want) {
            wrong++;
            System.out.println(call + " answered " + got + ", due is " + want);
        }
    }

    static void text(String call, String got, String want) {
        checks++;
        if (!got.equals(want)) {
            wrong++;
            System.out.println(call + " answered " + got + ", due is " + want);
        }
    }

    static void yes(String call, boolean got) {
        same(call, got ? 1 : 0, 1);
    }

    static void no(String call, boolean got) {
        same(call, got ? 1 : 0, 0);
    }

    static void none(String call, long got) {
        same(call, got, FairRates.NONE);
    }

    static void noSuch(String call, Callable<Integer> asked) {
        checks++;
        try {
            int got = asked.call();
            wrong++;
            System.out.println(call + " answered " + got + ", due is NoSuchElementException");
        } catch (NoSuchElementException e) {
            // Just this one is due.
        } catch (Exception e) {
            wrong++;
            System.out.println(call + " threw " + e + ", due is NoSuchElementException");
        }
    }

    static void end() {
        System.out.println(wrong == 0 ? checks + " answers are as due" : wrong + " of " + checks + " answers are not as due");
        if (wrong != 0) {
            System.exit(1);
        }
    }
}

import java.util.ArrayList;
import java.util.Arrays;
import java.util.List;
import java.util.Set;
import java.util.function.Supplier;

/**
 * What stays as it was: each question, and each call that is REFUSED, answers NONE, false or
 * Integer.MIN_VALUE or throws, leaves all as it was but how many calls were REFUSED. The arguments are
 * those at the bounds and beside them; all that can be asked is compared with an object of the same
 * calls without the one in question, for the state as it is and for both kept ones.
 */
public final class NothingChangesTest {
    private static final Set<String> CHANGES = Set.of("link", "come", "go", "change", "hold", "route", "lose",
            "hop", "letter", "rounds", "forget", "keep", "again");
    private static final int MAX = Integer.MAX_VALUE;
    private static final int MIN = Integer.MIN_VALUE;

    private static final Integer[] LINK = {-1, 0, 1, 4, 9, 10, MIN, MAX};
    private static final Integer[] FLOW = {-1, 0, 1, 2, 3, 19, 20, 32, MIN, MAX};
    private static final Integer[] AMOUNT = {-1, 0, 1, 12, 60, 1_000_000, 1_000_001, MIN, MAX};
    private static final Integer[] PATH = {-1, 0, 1, 3, 512, 1023, 1024, MIN, MAX};
    private static final Integer[] WHAT = {-1, 0, 1, 2, 3, 4, 8, 9, 13, 14, MIN, MAX};
    private static final Integer[] TIMES = {-1, 0, 1, 30, 31, 40, 41, 60, 61, 99, 100, MIN, MAX};
    private static final Integer[] KEPT = {-1, 0, 1, 2, MIN, MAX};
    private static final Object[] IS = {true, false};

    /** Each call of the face with the arguments that it is tried with. */
    private static final Object[][] CALLS = {
        {"link", LINK, AMOUNT},
        {"come", new Integer[] {-1, 0, 7, 999_999, 1_000_000}, new Integer[] {0, 1, 512, 1024}, new Integer[] {0, 1, 9, 10},
            new Integer[] {-1, 0, 60, 1_000_001}, new Integer[] {-1, 0, 59, 60, 1_000_001}},
        {"go", FLOW}, {"change", FLOW, new Integer[] {-1, 0, 1, 2, 3}, AMOUNT}, {"hold", FLOW, IS}, {"route", FLOW, PATH},
        {"lose", LINK, TIMES}, {"hop", FLOW}, {"letter", FLOW}, {"rounds", TIMES}, {"forget"}, {"keep", KEPT}, {"again", KEPT},
        {"links", LINK, WHAT}, {"flow", FLOW, WHAT}, {"named", AMOUNT}, {"fair", FLOW, WHAT}, {"used", LINK, WHAT},
        {"water", WHAT}, {"step", WHAT, WHAT}, {"ranked", TIMES}, {"proof", FLOW, WHAT}, {"fullest", WHAT}, {"even", WHAT},
        {"advertised", LINK}, {"pass", LINK, WHAT}, {"known", FLOW, LINK, new Integer[] {-1, 0, 1, 2, 3}}, {"booked", LINK},
        {"over"}, {"settling", WHAT}, {"swings", FLOW, TIMES, new Integer[] {-1, 0, 2, 3}}, {"peak", LINK, TIMES}, {"off"},
        {"would", PATH, new Integer[] {0, 1, 9, 10}, new Integer[] {-1, 0, 12, 1_000_001}, new Integer[] {-1, 11, 12, 1_000_001}},
        {"better", FLOW, PATH}, {"spares", FLOW, AMOUNT}, {"weightFor", FLOW, AMOUNT}, {"roomFor", PATH}, {"touched", LINK},
        {"without", FLOW, FLOW}, {"wider", LINK, AMOUNT, new Integer[] {-1, 0, 1, 2}}, {"tight"}, {"enough", LINK},
        {"storm", new Integer[] {-1, 0, 1, 52, 999_999, 1_000_000}, TIMES, new Integer[] {-1, 0, 2, 3}}, {"count", WHAT}};

    private NothingChangesTest() {
    }

    /** Flows held up, letters under way forth and back and to be lost, a BOUND that is CAPACITY, two kept states. */
    private static FairRates busy() {
        FairRates x = Nets.three();
        x.keep(1);
        x.link(4, 12);
        x.link(9, 1_000_000);
        x.come(0, 16 + 512, 3, 12, 60);
        x.rounds(2);
        x.hold(1, true);
        x.lose(1, 2);
        x.letter(2);
        x.hop(3);
        x.keep(0);
        x.go(9);
        x.hop(0);
        x.hop(1);
        x.hop(3);
        x.hop(3);
        x.lose(9, 99);
        x.link(0, 90);
        x.change(2, 0, 9);
        x.rounds(0);
        return x;
    }

    /** All numbers are given; both kept states are of other ones. */
    private static FairRates full() {
        FairRates x = new FairRates();
        x.keep(0);
        x.link(0, 100);
        for (int n = 0; n < 20; n++) {
            x.come(n, 1, 1 + n % 9, n % 3, 10 + 7 * n);
            if (n == 9) {
                x.keep(1);
            }
        }
        x.rounds(1);
        x.lose(0, 1);
        x.hold(19, true);
        x.hop(18);
        x.hop(19);
        return x;
    }

    private static FairRates none() {
        return new FairRates();
    }

    /** All that can be asked of a state, and what becomes of its letters under way. */
    private static String all(FairRates x) {
        StringBuilder text = new StringBuilder();
        for (int l = 0; l < 10; l++) {
            text.append("link ").append(x.links(l, 0)).append(' ').append(x.links(l, 1)).append(' ').append(x.links(l, 2));
            text.append(' ').append(x.advertised(l)).append(' ').append(x.booked(l)).append('\n');
        }
        for (int what : new int[] {0, 1, 2, 3, 4, 5, 11, 12, 13}) {
            text.append(x.count(what)).append(' ');
        }
        int flows = 0;
        for (int l = 0; l < 10; l++) {
            flows |= x.links(l, 2);
            text.append(" lose ").append(x.lose(l, 0));
        }
        for (int f = 0; f < 20; f++) {
            if ((flows >> f & 1) != 0) {
                oneFlow(x, f, text);
            }
        }
        return text.toString();
    }

    private static void oneFlow(FairRates x, int f, StringBuilder text) {
        text.append("\nflow ").append(f).append(' ').append(x.fair(f, 1));
        for (int what = 0; what <= 8; what++) {
            text.append(' ').append(x.flow(f, what));
        }
        heard(x, f, text);
        if (x.hop(f) >= 0) {
            text.append(" hop");
            heard(x, f, text);
        }
    }

    private static void heard(FairRates x, int f, StringBuilder text) {
        int path = x.flow(f, 1);
        text.append(" told ").append(x.flow(f, 7));
        for (int l = 0; l < 10; l++) {
            if ((path >> l & 1) != 0) {
                text.append(" at ").append(l).append(' ').append(x.known(f, l, 0)).append(' ').append(x.known(f, l, 1));
            }
        }
    }

    private static String asItIs(FairRates x, int which) {
        boolean isKept = which >= 0 && x.again(which);
        return isKept + "\n" + all(x);
    }

    private static String refused(FairRates x) {
        return Arrays.toString(new int[] {x.count(6), x.count(7), x.count(8), x.count(9), x.count(10)});
    }

    private static int refusedInAll(FairRates x) {
        return x.count(6) + x.count(7) + x.count(8) + x.count(9) + x.count(10);
    }

    private static boolean isNoAnswer(String answer) {
        return answer.equals("-1") || answer.equals("false") || answer.equals("throws") || answer.equals("" + MIN);
    }

    private static List<Object[]> rows(Object[] call) {
        List<Object[]> rows = new ArrayList<>();
        rows.add(new Object[0]);
        for (int i = 1; i < call.length; i++) {
            List<Object[]> longer = new ArrayList<>();
            for (Object[] row : rows) {
                for (Object value : (Object[]) call[i]) {
                    Object[] one = Arrays.copyOf(row, row.length + 1);
                    one[row.length] = value;
                    longer.add(one);
                }
            }
            rows = longer;
        }
        return rows;
    }

    private static int tried;

    private static void tryAll(String where, Supplier<FairRates> make) {
        String[] due = new String[3];
        for (int which = -1; which <= 1; which++) {
            due[which + 1] = asItIs(make.get(), which);
        }
        String refusedDue = refused(make.get());
        for (Object[] call : CALLS) {
            String name = (String) call[0];
            for (Object[] row : rows(call)) {
                FairRates x = make.get();
                int before = refusedInAll(x);
                String answer = Script.answer(x, name, row);
                if (CHANGES.contains(name) && !isNoAnswer(answer)) {
                    continue;
                }
                tried++;
                String title = where + ": " + name + Arrays.toString(row);
                boolean canBeRefused = CHANGES.contains(name) && answer.equals("-1");
                Due.same(title + ": REFUSED", refusedInAll(x) - before, canBeRefused ? 1 : 0);
                if (!canBeRefused) {
                    Due.text(title + ": REFUSED by", refused(x), refusedDue);
                }
                Due.text(title, asItIs(x, -1), due[0]);
                for (int which = 0; which <= 1; which++) {
                    FairRates y = make.get();
                    Script.answer(y, name, row);
                    Due.text(title + ": kept " + which, asItIs(y, which), due[which + 1]);
                }
            }
        }
    }

    public static void main(String[] args) {
        tryAll("busy", NothingChangesTest::busy);
        tryAll("full", NothingChangesTest::full);
        tryAll("none", NothingChangesTest::none);
        Due.yes("calls were tried (" + tried + ")", tried > 8000);
        Due.end();
    }
}

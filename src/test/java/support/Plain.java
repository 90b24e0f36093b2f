import java.util.ArrayList;
import java.util.HashMap;
import java.util.HashSet;
import java.util.List;
import java.util.Map;
import java.util.NoSuchElementException;
import java.util.Set;
import java.util.TreeMap;
import java.util.function.IntPredicate;

/**
 * The document once more, word by word and without a thought for speed: nothing is kept from one call
 * to the next but the state, and every greatest LEVEL is searched for by its own definition. What
 * FairRates answers is compared with it by RandomRunsTest.
 */
final class Plain {
    static final int TOP = 1_000_000;
    private static final int NONE = -1;
    /** Above this enough() is searched by halves, below it capacity by capacity. */
    private static final int SMALL = 400;

    private static final class Way {
        boolean back;
        int at;
        int level;

        Way copy() {
            Way w = new Way();
            w.back = back;
            w.at = at;
            w.level = level;
            return w;
        }
    }

    private static final class Flow {
        int name;
        int links;
        int weight;
        int least;
        int want;
        boolean held;
        int told;
        Way way;
        TreeMap<Integer, Integer> ahead = new TreeMap<>();
        TreeMap<Integer, Integer> behind = new TreeMap<>();

        Flow copy() {
            Flow f = new Flow();
            f.name = name;
            f.links = links;
            f.weight = weight;
            f.least = least;
            f.want = want;
            f.held = held;
            f.told = told;
            f.way = way == null ? null : way.copy();
            f.ahead.putAll(ahead);
            f.behind.putAll(behind);
            return f;
        }

        boolean over(int link) {
            return (links & 1 << link) != 0;
        }

        int rate(int level) {
            return weight * level >= least ? weight * level : least;
        }

        int own() {
            return greatest(t -> rate(t) <= want);
        }

        int elsewhere(int link) {
            return Math.min(ahead.get(link), behind.get(link));
        }

        void putOn(int newLinks) {
            links = newLinks;
            way = null;
            for (int l = 0; l < 10; l++) {
                if (!over(l)) {
                    ahead.remove(l);
                    behind.remove(l);
                } else {
                    ahead.putIfAbsent(l, TOP);
                    behind.putIfAbsent(l, TOP);
                }
            }
        }
    }

    private static final class State {
        int[] capacity = new int[10];
        int[] lose = new int[10];
        TreeMap<Integer, Flow> flows = new TreeMap<>();
        int letters;
        int rounds;
        int lost;

        State copy() {
            State s = new State();
            s.capacity = capacity.clone();
            s.lose = lose.clone();
            flows.forEach((n, f) -> s.flows.put(n, f.copy()));
            s.letters = letters;
            s.rounds = rounds;
            s.lost = lost;
            return s;
        }

        List<Flow> at(int link) {
            List<Flow> found = new ArrayList<>();
            for (Flow f : flows.values()) {
                if (f.over(link)) {
                    found.add(f);
                }
            }
            return found;
        }

        int bound(int link) {
            return at(link).stream().mapToInt(f -> f.least).sum();
        }

        boolean boundsHold() {
            for (int l = 0; l < 10; l++) {
                if (bound(l) > capacity[l]) {
                    return false;
                }
            }
            return true;
        }

        int advertises(int link) {
            if (at(link).isEmpty()) {
                return TOP;
            }
            return greatest(t -> at(link).stream()
                    .mapToInt(f -> f.rate(Math.min(t, f.elsewhere(link)))).sum() <= capacity[link]);
        }

        int booked(int link) {
            return at(link).stream().mapToInt(f -> f.rate(f.told)).sum();
        }

        int over() {
            int bits = 0;
            for (int l = 0; l < 10; l++) {
                if (booked(l) > capacity[l]) {
                    bits |= 1 << l;
                }
            }
            return bits;
        }

        boolean losesAt(int link) {
            if (lose[link] > 0) {
                lose[link]--;
                lost++;
                return true;
            }
            return false;
        }

        void letter(Flow f) {
            letters++;
            int u = f.own();
            for (int l = 0; l < 10; l++) {
                if (f.over(l)) {
                    f.ahead.put(l, u);
                    if (losesAt(l)) {
                        return;
                    }
                    u = Math.min(u, advertises(l));
                }
            }
            f.told = u;
            int v = TOP;
            for (int l = 9; l >= 0; l--) {
                if (f.over(l)) {
                    f.behind.put(l, v);
                    v = Math.min(v, advertises(l));
                }
            }
        }

        String heard() {
            StringBuilder text = new StringBuilder();
            flows.forEach((n, f) -> text.append(n).append(f.ahead).append(f.behind).append(f.told).append(';'));
            return text.toString();
        }

        boolean round() {
            rounds++;
            String before = heard();
            for (Flow f : flows.values()) {
                if (!f.held) {
                    letter(f);
                }
            }
            return before.equals(heard());
        }

        int hop(Flow f) {
            if (f.way == null) {
                f.way = new Way();
                f.way.level = f.own();
                f.way.at = Integer.numberOfTrailingZeros(f.links);
                letters++;
            }
            Way w = f.way;
            int link = w.at;
            if (!w.back) {
                f.ahead.put(link, w.level);
                if (losesAt(link)) {
                    f.way = null;
                    return 50 + link;
                }
                w.level = Math.min(w.level, advertises(link));
                Integer next = f.ahead.higherKey(link);
                if (next == null) {
                    f.told = w.level;
                    w.back = true;
                    w.level = TOP;
                } else {
                    w.at = next;
                }
                return link;
            }
            f.behind.put(link, w.level);
            w.level = Math.min(w.level, advertises(link));
            Integer next = f.ahead.lowerKey(link);
            if (next == null) {
                f.way = null;
            } else {
                w.at = next;
            }
            return 20 + link;
        }
    }

    private static final class Step {
        int level;
        int flows;
        int links;
        int rates;
    }

    private static final class Fair {
        final State state;
        final TreeMap<Integer, Integer> level = new TreeMap<>();
        final TreeMap<Integer, Integer> witness = new TreeMap<>();
        final TreeMap<Integer, Integer> stepOf = new TreeMap<>();
        final List<Step> steps = new ArrayList<>();

        Fair(State s) {
            state = s;
            while (level.size() < s.flows.size()) {
                oneStep();
            }
        }

        private Integer tide(int link) {
            boolean any = false;
            int fixed = 0;
            List<Flow> open = new ArrayList<>();
            for (Map.Entry<Integer, Flow> e : state.flows.entrySet()) {
                if (e.getValue().over(link)) {
                    if (level.containsKey(e.getKey())) {
                        fixed += e.getValue().rate(level.get(e.getKey()));
                    } else {
                        any = true;
                        open.add(e.getValue());
                    }
                }
            }
            if (!any) {
                return null;
            }
            int base = fixed;
            return greatest(t -> base + open.stream().mapToInt(f -> f.rate(t)).sum() <= state.capacity[link]);
        }

        private void oneStep() {
            Map<Integer, Integer> tides = new HashMap<>();
            int least = Integer.MAX_VALUE;
            for (int l = 0; l < 10; l++) {
                Integer t = tide(l);
                if (t != null) {
                    tides.put(l, t);
                    least = Math.min(least, t);
                }
            }
            for (int n : state.flows.keySet()) {
                if (!level.containsKey(n)) {
                    least = Math.min(least, state.flows.get(n).own());
                }
            }
            Step step = new Step();
            step.level = least;
            for (int l : tides.keySet()) {
                if (tides.get(l) == least) {
                    step.links |= 1 << l;
                }
            }
            for (int n : state.flows.keySet()) {
                Flow f = state.flows.get(n);
                if (level.containsKey(n) || f.own() != least && (f.links & step.links) == 0) {
                    continue;
                }
                step.flows |= 1 << n;
                step.rates += f.rate(least);
                stepOf.put(n, steps.size());
                witness.put(n, 10);
                for (int l = 9; l >= 0; l--) {
                    if (f.over(l) && tides.get(l) == least) {
                        witness.put(n, l);
                    }
                }
            }
            for (int n : state.flows.keySet()) {
                if ((step.flows & 1 << n) != 0) {
                    level.put(n, least);
                }
            }
            steps.add(step);
        }

        int rate(int n) {
            return state.flows.get(n).rate(level.get(n));
        }

        int total() {
            return level.keySet().stream().mapToInt(this::rate).sum();
        }

        int least() {
            return level.values().stream().mapToInt(t -> t).min().orElse(NONE);
        }

        int most() {
            return level.values().stream().mapToInt(t -> t).max().orElse(NONE);
        }

        int used(int link) {
            int sum = 0;
            for (int n : level.keySet()) {
                sum += state.flows.get(n).over(link) ? rate(n) : 0;
            }
            return sum;
        }
    }

    private State now = new State();
    private final State[] kept = new State[2];
    private final int[] refused = new int[5];

    /** The greatest LEVEL that is good; all less ones are, too. */
    static int greatest(IntPredicate good) {
        if (!good.test(0)) {
            throw new IllegalStateException("no level is good");
        }
        int low = 0;
        int high = TOP;
        while (low < high) {
            int middle = (low + high + 1) / 2;
            if (good.test(middle)) {
                low = middle;
            } else {
                high = middle - 1;
            }
        }
        return low;
    }

    private int no(int why) {
        refused[why]++;
        return NONE;
    }

    private static boolean within(int x, int from, int to) {
        return x >= from && x <= to;
    }

    private static boolean path(int links) {
        return links != 0 && (links & ~1023) == 0;
    }

    private Fair fairNow() {
        return new Fair(now);
    }

    int link(int link, int capacity) {
        if (!within(link, 0, 9) || !within(capacity, 0, TOP)) {
            return no(0);
        }
        if (now.capacity[link] == capacity) {
            return no(2);
        }
        if (now.bound(link) > capacity) {
            return no(4);
        }
        int was = now.capacity[link];
        now.capacity[link] = capacity;
        return was;
    }

    /** 0, 2, 3, 4 as come() is refused; NONE: it is not. */
    private static int notCome(State s, int name, int links, int weight, int least, int want) {
        if (!within(name, 0, 999_999) || !path(links) || !within(weight, 1, 9) || !within(least, 0, TOP)
                || !within(want, 0, TOP) || want < least) {
            return 0;
        }
        if (s.flows.values().stream().anyMatch(f -> f.name == name)) {
            return 2;
        }
        if (s.flows.size() == 20) {
            return 3;
        }
        State t = s.copy();
        place(t, name, links, weight, least, want);
        return t.boundsHold() ? NONE : 4;
    }

    private static int place(State s, int name, int links, int weight, int least, int want) {
        Flow f = new Flow();
        f.name = name;
        f.weight = weight;
        f.least = least;
        f.want = want;
        f.putOn(links);
        int n = 0;
        while (s.flows.containsKey(n)) {
            n++;
        }
        s.flows.put(n, f);
        return n;
    }

    int come(int name, int links, int weight, int least, int want) {
        int why = notCome(now, name, links, weight, least, want);
        return why != NONE ? no(why) : place(now, name, links, weight, least, want);
    }

    int go(int flow) {
        if (now.flows.remove(flow) == null) {
            return no(1);
        }
        return now.flows.size();
    }

    int change(int flow, int what, int v) {
        if (!within(what, 0, 2) || (what == 0 ? !within(v, 1, 9) : !within(v, 0, TOP))) {
            return no(0);
        }
        Flow f = now.flows.get(flow);
        if (f == null) {
            return no(1);
        }
        if (what == 1 && f.want < v || what == 2 && v < f.least) {
            return no(0);
        }
        int was = what == 0 ? f.weight : what == 1 ? f.least : f.want;
        if (was == v) {
            return no(2);
        }
        if (what == 0) {
            f.weight = v;
        } else if (what == 1) {
            f.least = v;
            if (!now.boundsHold()) {
                f.least = was;
                return no(4);
            }
        } else {
            f.want = v;
        }
        return was;
    }

    int hold(int flow, boolean is) {
        Flow f = now.flows.get(flow);
        if (f == null) {
            return no(1);
        }
        if (f.held == is) {
            return no(2);
        }
        f.held = is;
        return count(1);
    }

    private int notRoute(int flow, int links) {
        if (!path(links)) {
            return 0;
        }
        if (!now.flows.containsKey(flow)) {
            return 1;
        }
        if (now.flows.get(flow).links == links) {
            return 2;
        }
        State t = now.copy();
        t.flows.get(flow).putOn(links);
        return t.boundsHold() ? NONE : 4;
    }

    int route(int flow, int links) {
        int why = notRoute(flow, links);
        if (why != NONE) {
            return no(why);
        }
        int was = now.flows.get(flow).links;
        now.flows.get(flow).putOn(links);
        return Integer.bitCount(links & ~was);
    }

    int lose(int link, int n) {
        if (!within(link, 0, 9) || !within(n, 0, 99)) {
            return no(0);
        }
        int was = now.lose[link];
        now.lose[link] = n;
        return was;
    }

    int hop(int flow) {
        Flow f = now.flows.get(flow);
        return f == null ? no(1) : now.hop(f);
    }

    int letter(int flow) {
        Flow f = now.flows.get(flow);
        if (f == null) {
            return no(1);
        }
        now.letter(f);
        return f.told;
    }

    int rounds(int n) {
        if (!within(n, 1, 30)) {
            return no(0);
        }
        for (int i = 1; i <= n; i++) {
            if (now.round()) {
                return i;
            }
        }
        return n;
    }

    int forget() {
        for (Flow f : now.flows.values()) {
            f.ahead.replaceAll((l, t) -> TOP);
            f.behind.replaceAll((l, t) -> TOP);
            f.told = 0;
            f.way = null;
        }
        return now.flows.size();
    }

    boolean keep(int k) {
        if (!within(k, 0, 1)) {
            return false;
        }
        kept[k] = now.copy();
        return true;
    }

    boolean again(int k) {
        if (!within(k, 0, 1) || kept[k] == null) {
            return false;
        }
        now = kept[k].copy();
        return true;
    }

    int links(int link, int what) {
        if (!within(link, 0, 9)) {
            return NONE;
        }
        if (what == 0) {
            return now.capacity[link];
        }
        if (what == 1) {
            return now.bound(link);
        }
        int bits = 0;
        for (int n : now.flows.keySet()) {
            bits |= now.flows.get(n).over(link) ? 1 << n : 0;
        }
        return what == 2 ? bits : NONE;
    }

    private Flow the(int flow) {
        if (!now.flows.containsKey(flow)) {
            throw new NoSuchElementException();
        }
        return now.flows.get(flow);
    }

    int flow(int flow, int what) {
        Flow f = the(flow);
        int[] parts = {f.name, f.links, f.weight, f.least, f.want, f.own(), f.held ? 1 : 0, f.told, f.rate(f.told)};
        return within(what, 0, 8) ? parts[what] : NONE;
    }

    int named(int name) {
        for (int n : now.flows.keySet()) {
            if (now.flows.get(n).name == name) {
                return n;
            }
        }
        return NONE;
    }

    int fair(int flow, int what) {
        the(flow);
        Fair fair = fairNow();
        int[] parts = {fair.rate(flow), fair.level.get(flow), fair.witness.get(flow), fair.stepOf.get(flow)};
        return within(what, 0, 3) ? parts[what] : NONE;
    }

    int used(int link, int what) {
        if (!within(link, 0, 9) || !within(what, 0, 2)) {
            return NONE;
        }
        Fair fair = fairNow();
        if (what == 2) {
            return (int) fair.witness.values().stream().filter(w -> w == link).count();
        }
        return what == 0 ? fair.used(link) : now.capacity[link] - fair.used(link);
    }

    int water(int what) {
        Fair fair = fairNow();
        int[] parts = {fair.steps.size(), fair.least(), fair.most(), fair.total()};
        return within(what, 0, 3) ? parts[what] : NONE;
    }

    int step(int k, int what) {
        Fair fair = fairNow();
        if (k < 0 || k >= fair.steps.size() || !within(what, 0, 3)) {
            return NONE;
        }
        Step s = fair.steps.get(k);
        return new int[] {s.level, s.flows, s.links, s.rates}[what];
    }

    int ranked(int k) {
        Fair fair = fairNow();
        List<Integer> order = new ArrayList<>(fair.level.keySet());
        order.sort((a, b) -> fair.level.get(a).equals(fair.level.get(b))
                ? Integer.compare(a, b) : Integer.compare(fair.level.get(a), fair.level.get(b)));
        return k < 0 || k >= order.size() ? NONE : order.get(k);
    }

    int proof(int flow, int what) {
        the(flow);
        Fair fair = fairNow();
        int w = fair.witness.get(flow);
        if (w == 10 || !within(what, 0, 2)) {
            return NONE;
        }
        int[] parts = new int[3];
        for (int n : now.flows.keySet()) {
            if (now.flows.get(n).over(w)) {
                int far = Integer.compare(fair.level.get(n), fair.level.get(flow));
                parts[0] += far > 0 ? 1 : 0;
                parts[1] += far == 0 ? 1 : 0;
                parts[2] += far < 0 ? fair.rate(n) : 0;
            }
        }
        return parts[what];
    }

    int fullest(int k) {
        Fair fair = fairNow();
        List<Integer> order = new ArrayList<>();
        for (int l = 0; l < 10; l++) {
            if (!now.at(l).isEmpty()) {
                order.add(l);
            }
        }
        order.sort((a, b) -> {
            int byLeft = Integer.compare(now.capacity[a] - fair.used(a), now.capacity[b] - fair.used(b));
            return byLeft != 0 ? byLeft : Integer.compare(a, b);
        });
        return k < 0 || k >= order.size() ? NONE : order.get(k);
    }

    long even(int what) {
        Fair fair = fairNow();
        java.math.BigInteger sum = java.math.BigInteger.ZERO;
        java.math.BigInteger squares = java.math.BigInteger.ZERO;
        for (int n : now.flows.keySet()) {
            java.math.BigInteger r = java.math.BigInteger.valueOf(fair.rate(n));
            sum = sum.add(r);
            squares = squares.add(r.multiply(r));
        }
        if (sum.signum() == 0 || !within(what, 0, 1)) {
            return NONE;
        }
        java.math.BigInteger upper = sum.multiply(sum);
        java.math.BigInteger lower = squares.multiply(java.math.BigInteger.valueOf(now.flows.size()));
        return (what == 0 ? upper : lower).divide(upper.gcd(lower)).longValueExact();
    }

    int advertised(int link) {
        return within(link, 0, 9) ? now.advertises(link) : NONE;
    }

    int pass(int link, int k) {
        if (!within(link, 0, 9)) {
            return NONE;
        }
        List<Integer> levels = new ArrayList<>();
        Set<Flow> marked = new HashSet<>();
        boolean fresh = true;
        while (fresh) {
            fresh = false;
            int t = marked.size() == now.at(link).size() ? TOP : greatest(s -> now.at(link).stream()
                    .mapToInt(f -> marked.contains(f) ? f.rate(f.elsewhere(link)) : f.rate(s)).sum()
                    <= now.capacity[link]);
            levels.add(t);
            for (Flow f : now.at(link)) {
                if (f.elsewhere(link) < t && marked.add(f)) {
                    fresh = true;
                }
            }
        }
        if (k == NONE) {
            return levels.size();
        }
        return k < 0 || k >= levels.size() ? NONE : levels.get(k);
    }

    int known(int flow, int link, int what) {
        Flow f = now.flows.get(flow);
        if (f == null || !within(link, 0, 9) || !f.over(link) || !within(what, 0, 2)) {
            return NONE;
        }
        int[] parts = {f.ahead.get(link), f.behind.get(link), f.elsewhere(link) < now.advertises(link) ? 1 : 0};
        return parts[what];
    }

    int booked(int link) {
        return within(link, 0, 9) ? now.booked(link) : NONE;
    }

    int over() {
        return now.over();
    }

    private static long off(State s) {
        Fair fair = new Fair(s);
        return s.flows.keySet().stream().mapToLong(n -> Math.abs(s.flows.get(n).told - fair.level.get(n))).sum();
    }

    int settling(int what) {
        State paper = now.copy();
        int done = 0;
        int over = 0;
        boolean quiet = false;
        while (!quiet && done < 60) {
            quiet = paper.round();
            done++;
            over += paper.over() != 0 ? 1 : 0;
        }
        int[] parts = {quiet ? done : 61, over, off(paper) == 0 ? 1 : 0};
        return within(what, 0, 2) ? parts[what] : NONE;
    }

    int swings(int flow, int n, int what) {
        if (!now.flows.containsKey(flow) || !within(n, 1, 60) || !within(what, 0, 2)) {
            return NONE;
        }
        State paper = now.copy();
        List<Integer> told = new ArrayList<>();
        int turns = 0;
        for (int i = 0; i < n; i++) {
            int before = paper.flows.get(flow).told;
            paper.round();
            told.add(paper.flows.get(flow).told);
            turns += paper.flows.get(flow).told == before ? 0 : 1;
        }
        told.sort(null);
        return what == 0 ? turns : what == 1 ? told.get(n - 1) : told.get(0);
    }

    int peak(int link, int n) {
        if (!within(link, 0, 9) || !within(n, 1, 60)) {
            return NONE;
        }
        State paper = now.copy();
        int most = 0;
        for (int i = 0; i < n; i++) {
            paper.round();
            most = Math.max(most, paper.booked(link));
        }
        return most;
    }

    long off() {
        return off(now);
    }

    int would(int links, int weight, int least, int want) {
        int name = 0;
        while (named(name) != NONE) {
            name++;
        }
        if (notCome(now, name, links, weight, least, want) != NONE) {
            return NONE;
        }
        State s = now.copy();
        int n = place(s, name, links, weight, least, want);
        return new Fair(s).rate(n);
    }

    int better(int flow, int links) {
        int why = notRoute(flow, links);
        if (why != NONE && why != 2) {
            return NONE;
        }
        State s = now.copy();
        s.flows.get(flow).putOn(links);
        return new Fair(s).rate(flow);
    }

    int spares(int flow, int want) {
        if (!now.flows.containsKey(flow) || !within(want, 0, TOP) || want < now.flows.get(flow).least) {
            return Integer.MIN_VALUE;
        }
        Fair before = fairNow();
        State s = now.copy();
        s.flows.get(flow).want = want;
        Fair after = new Fair(s);
        return after.total() - after.rate(flow) - before.total() + before.rate(flow);
    }

    int weightFor(int flow, int rate) {
        if (!now.flows.containsKey(flow)) {
            return NONE;
        }
        for (int w = 1; w <= 9; w++) {
            State s = now.copy();
            s.flows.get(flow).weight = w;
            if (new Fair(s).rate(flow) >= rate) {
                return w;
            }
        }
        return NONE;
    }

    int roomFor(int links) {
        if (!path(links) || now.flows.size() == 20) {
            return NONE;
        }
        State s = now.copy();
        int n = place(s, NONE, links, 1, 0, TOP);
        return greatest(t -> {
            s.flows.get(n).least = t;
            return s.boundsHold();
        });
    }

    private static int otherLevels(Fair a, Fair b) {
        int bits = 0;
        for (int n : a.level.keySet()) {
            bits |= a.level.get(n).equals(b.level.get(n)) ? 0 : 1 << n;
        }
        return bits;
    }

    private Fair withCapacity(int link, int capacity) {
        State s = now.copy();
        s.capacity[link] = capacity;
        return new Fair(s);
    }

    int touched(int link) {
        if (!within(link, 0, 9) || now.capacity[link] == now.bound(link)) {
            return NONE;
        }
        return otherLevels(fairNow(), withCapacity(link, now.capacity[link] - 1));
    }

    int without(int flow, int other) {
        if (!now.flows.containsKey(flow) || !now.flows.containsKey(other) || flow == other) {
            return Integer.MIN_VALUE;
        }
        State s = now.copy();
        s.flows.remove(flow);
        return new Fair(s).rate(other) - fairNow().rate(other);
    }

    int wider(int link, int more, int what) {
        if (!within(link, 0, 9) || more < 0 || !within(what, 0, 1) || now.flows.isEmpty()) {
            return Integer.MIN_VALUE;
        }
        Fair before = fairNow();
        Fair after = withCapacity(link, (int) Math.min((long) TOP, (long) now.capacity[link] + more));
        return what == 0 ? after.least() - before.least() : after.total() - before.total();
    }

    int tight() {
        int best = NONE;
        int most = 0;
        for (int l = 0; l < 10 && !now.flows.isEmpty(); l++) {
            int gain = wider(l, 100, 0);
            if (gain > most) {
                most = gain;
                best = l;
            }
        }
        return best;
    }

    int enough(int link) {
        if (!within(link, 0, 9)) {
            return NONE;
        }
        Fair fair = fairNow();
        int low = now.bound(link);
        int high = now.capacity[link];
        if (high - low <= SMALL) {
            while (otherLevels(fair, withCapacity(link, low)) != 0) {
                low++;
            }
            return low;
        }
        while (low < high) {
            int middle = (low + high) / 2;
            if (otherLevels(fair, withCapacity(link, middle)) == 0) {
                high = middle;
            } else {
                low = middle + 1;
            }
        }
        return low;
    }

    private long drawn;

    private int draw() {
        drawn = (1_103 * drawn + 12_345) % 1_000_003;
        return (int) drawn;
    }

    int storm(int seed, int n, int what) {
        if (!within(seed, 0, 999_999) || !within(n, 1, 40) || !within(what, 0, 2)) {
            return NONE;
        }
        drawn = seed;
        State paper = now.copy();
        int quiet = 0;
        int over = 0;
        for (int i = 0; i < n; i++) {
            int kind = draw() % 4;
            if (kind == 0) {
                int name = draw() % 1_000_000;
                int links = 1 + draw() % 1_023;
                int weight = 1 + draw() % 9;
                int want = draw() % 1_000;
                if (notCome(paper, name, links, weight, 0, want) == NONE) {
                    place(paper, name, links, weight, 0, want);
                }
            } else if (kind == 1 && !paper.flows.isEmpty()) {
                List<Integer> numbers = new ArrayList<>(paper.flows.keySet());
                paper.flows.remove(numbers.get(draw() % numbers.size()));
            }
            quiet += paper.round() ? 1 : 0;
            over += paper.over() != 0 ? 1 : 0;
        }
        return what == 0 ? quiet : what == 1 ? over : paper.flows.size();
    }

    int count(int what) {
        int held = 0;
        int under = 0;
        int marks = 0;
        for (Flow f : now.flows.values()) {
            held += f.held ? 1 : 0;
            under += f.way != null ? 1 : 0;
        }
        int used = 0;
        int lose = 0;
        for (int l = 0; l < 10; l++) {
            used += now.at(l).isEmpty() ? 0 : 1;
            lose += now.lose[l];
            if (what == 5) {
                int offer = now.advertises(l);
                for (Flow f : now.at(l)) {
                    marks += f.elsewhere(l) < offer ? 1 : 0;
                }
            }
        }
        int[] parts = {now.flows.size(), held, used, now.letters, now.rounds, marks, refused[0], refused[1],
            refused[2], refused[3], refused[4], now.lost, under, lose};
        return within(what, 0, 13) ? parts[what] : NONE;
    }
}

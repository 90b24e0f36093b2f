import java.util.Arrays;
import java.util.NoSuchElementException;

/**
 * Fair rates of flows over links with capacities: told by one who sees it all (FAIR), and found by
 * letters that go forth and back over each flow's links. The words in capitals are the document's.
 */
public final class FairRates {
    public static final int NONE = -1;

    private static final int LINKS = 10;
    private static final int FLOWS = 20;
    /** The greatest LEVEL, CAPACITY, LEAST and WANT, and what AHEAD and BEHIND are at first. */
    private static final int TOP = 1_000_000;
    private static final int ALL_LINKS = (1 << LINKS) - 1;
    private static final int NO_WITNESS = LINKS;
    private static final int GREATEST_WEIGHT = 9;

    private static final int CANT_BE = 0;
    private static final int NO_SUCH = 1;
    private static final int SO_ALREADY = 2;
    private static final int NO_ROOM = 3;
    private static final int TOO_TIGHT = 4;
    private static final int REASONS = 5;

    private static final int WEIGHT = 0;
    private static final int LEAST = 1;
    private static final int WANT = 2;

    private static final int MOST_TO_LOSE = 99;
    private static final int MOST_ROUNDS = 30;
    private static final int MOST_ROUNDS_ON_PAPER = 60;
    private static final int MOST_IN_STORM = 40;
    private static final int MORE_WHERE_TIGHT = 100;
    /** More than enough to halve every stretch of capacities down to one. */
    private static final int MOST_HALVINGS = 32;
    /** The document's Integer.MIN_VALUE, where NONE could be an answer. */
    private static final int NO_ANSWER = -2_147_483_648;

    private final Post post = new Post();
    private final Plan plan = post.plan;
    private final Water now = new Water(plan);

    /** A second state for all that is only asked, never done; no call leaves anything there. */
    private final Post paper = new Post();
    private final Water then = new Water(paper.plan);

    private final Post firstKept = new Post();
    private final Post secondKept = new Post();
    private boolean isFirstKept;
    private boolean isSecondKept;

    private final int[] refused = new int[REASONS];
    private final int[] passLevels = new int[FLOWS + 1];

    public FairRates() {
    }

    // What changes the state.

    public int link(int link, int capacity) {
        if (!isLink(link) || !isAmount(capacity)) {
            return refuse(CANT_BE);
        }
        int was = plan.capacity[link];
        if (was == capacity) {
            return refuse(SO_ALREADY);
        }
        if (plan.boundOf(link) > capacity) {
            return refuse(TOO_TIGHT);
        }
        plan.setCapacity(link, capacity);
        return was;
    }

    public int come(int name, int links, int weight, int least, int want) {
        int why = whyNotCome(plan, name, links, weight, least, want);
        if (why != NONE) {
            return refuse(why);
        }
        return post.takeIn(name, links, weight, least, want);
    }

    public int go(int flow) {
        if (!plan.has(flow)) {
            return refuse(NO_SUCH);
        }
        post.letGo(flow);
        return Integer.bitCount(plan.flows);
    }

    public int change(int flow, int what, int v) {
        if (!canBe(what, v)) {
            return refuse(CANT_BE);
        }
        if (!plan.has(flow)) {
            return refuse(NO_SUCH);
        }
        if (what == LEAST && v > plan.want[flow] || what == WANT && v < plan.least[flow]) {
            return refuse(CANT_BE);
        }
        int was = plan.partOf(flow, what);
        if (was == v) {
            return refuse(SO_ALREADY);
        }
        if (what == LEAST && !plan.hasRoom(plan.path[flow], v - was)) {
            return refuse(TOO_TIGHT);
        }
        plan.setPart(flow, what, v);
        return was;
    }

    public int hold(int flow, boolean is) {
        if (!plan.has(flow)) {
            return refuse(NO_SUCH);
        }
        if (post.isHeld(flow) == is) {
            return refuse(SO_ALREADY);
        }
        post.held ^= 1 << flow;
        return Integer.bitCount(post.held);
    }

    public int route(int flow, int links) {
        int why = whyNotRoute(flow, links);
        if (why != NONE) {
            return refuse(why);
        }
        int fresh = links & ~plan.path[flow];
        post.reroute(flow, links);
        return Integer.bitCount(fresh);
    }

    public int lose(int link, int n) {
        if (!isLink(link) || n < 0 || n > MOST_TO_LOSE) {
            return refuse(CANT_BE);
        }
        int was = post.toLose[link];
        post.toLose[link] = n;
        return was;
    }

    public int hop(int flow) {
        if (!plan.has(flow)) {
            return refuse(NO_SUCH);
        }
        return post.goOn(flow);
    }

    public int letter(int flow) {
        if (!plan.has(flow)) {
            return refuse(NO_SUCH);
        }
        post.send(flow);
        return post.told[flow];
    }

    public int rounds(int n) {
        if (n < 1 || n > MOST_ROUNDS) {
            return refuse(CANT_BE);
        }
        int done = 0;
        boolean quiet = false;
        while (done < n && !quiet) {
            quiet = post.goRound();
            done++;
        }
        return done;
    }

    public int forget() {
        post.forgetAll();
        return Integer.bitCount(plan.flows);
    }

    public boolean keep(int k) {
        if (k == 0) {
            firstKept.copy(post);
            isFirstKept = true;
            return true;
        }
        if (k == 1) {
            secondKept.copy(post);
            isSecondKept = true;
            return true;
        }
        return false;
    }

    public boolean again(int k) {
        if (k == 0 && isFirstKept) {
            post.copy(firstKept);
            return true;
        }
        if (k == 1 && isSecondKept) {
            post.copy(secondKept);
            return true;
        }
        return false;
    }

    // Links and flows as they are.

    public int links(int link, int what) {
        if (!isLink(link)) {
            return NONE;
        }
        switch (what) {
            case 0: return plan.capacity[link];
            case 1: return plan.boundOf(link);
            case 2: return plan.crowd[link];
            default: return NONE;
        }
    }

    public int flow(int flow, int what) throws NoSuchElementException {
        if (!plan.has(flow)) {
            throw new NoSuchElementException("no such flow");
        }
        switch (what) {
            case 0: return plan.name[flow];
            case 1: return plan.path[flow];
            case 2: return plan.weight[flow];
            case 3: return plan.least[flow];
            case 4: return plan.want[flow];
            case 5: return plan.ownOf(flow);
            case 6: return post.isHeld(flow) ? 1 : 0;
            case 7: return post.told[flow];
            case 8: return plan.rateBy(flow, post.told[flow]);
            default: return NONE;
        }
    }

    public int named(int name) {
        return plan.flowNamed(name);
    }

    // What is fair.

    public int fair(int flow, int what) throws NoSuchElementException {
        if (!plan.has(flow)) {
            throw new NoSuchElementException("no such flow");
        }
        now.rise();
        switch (what) {
            case 0: return now.rateOf(flow);
            case 1: return now.level[flow];
            case 2: return now.witness[flow];
            case 3: return now.stepOf[flow];
            default: return NONE;
        }
    }

    public int used(int link, int what) {
        if (!isLink(link)) {
            return NONE;
        }
        now.rise();
        switch (what) {
            case 0: return now.ratesOf(plan.crowd[link]);
            case 1: return now.leftOf(link);
            case 2: return now.witnessedBy(link);
            default: return NONE;
        }
    }

    public int water(int what) {
        now.rise();
        switch (what) {
            case 0: return now.steps;
            case 1: return now.leastLevel();
            case 2: return now.greatestLevel();
            case 3: return now.ratesOf(plan.flows);
            default: return NONE;
        }
    }

    public int step(int k, int what) {
        now.rise();
        if (k < 0 || k >= now.steps) {
            return NONE;
        }
        switch (what) {
            case 0: return now.stepLevel[k];
            case 1: return now.stepFlows[k];
            case 2: return now.stepLinks[k];
            case 3: return now.ratesOf(now.stepFlows[k]);
            default: return NONE;
        }
    }

    public int ranked(int k) {
        now.rise();
        for (int f = 0; f < FLOWS; f++) {
            if (plan.has(f) && now.rankOf(f) == k) {
                return f;
            }
        }
        return NONE;
    }

    public int proof(int flow, int what) throws NoSuchElementException {
        if (!plan.has(flow)) {
            throw new NoSuchElementException("no such flow");
        }
        now.rise();
        int witness = now.witness[flow];
        if (!isLink(witness)) {
            return NONE;
        }
        int crowd = plan.crowd[witness];
        int less = now.below(crowd, now.level[flow]);
        int lessOrSame = now.below(crowd, now.level[flow] + 1);
        switch (what) {
            case 0: return Integer.bitCount(crowd & ~lessOrSame);
            case 1: return Integer.bitCount(lessOrSame & ~less);
            case 2: return now.ratesOf(less);
            default: return NONE;
        }
    }

    public int fullest(int k) {
        now.rise();
        for (int l = 0; l < LINKS; l++) {
            if (plan.crowd[l] != 0 && now.fullnessOf(l) == k) {
                return l;
            }
        }
        return NONE;
    }

    public long even(int what) {
        if (what != 0 && what != 1) {
            return NONE;
        }
        now.rise();
        long sum = 0;
        long squares = 0;
        for (int f = 0; f < FLOWS; f++) {
            if (plan.has(f)) {
                long rate = now.rateOf(f);
                sum += rate;
                squares += rate * rate;
            }
        }
        if (sum == 0) {
            return NONE;
        }
        long upper = sum * sum;
        long lower = Integer.bitCount(plan.flows) * squares;
        long common = commonDivisor(upper, lower);
        if (common < 1) {
            return NONE;
        }
        return what == 0 ? upper / common : lower / common;
    }

    // What the letters have told.

    public int advertised(int link) {
        return isLink(link) ? post.offerOf(link) : NONE;
    }

    public int pass(int link, int k) {
        if (!isLink(link) || k < NONE) {
            return NONE;
        }
        int passes = post.findMarks(link, passLevels);
        if (k == NONE) {
            return passes;
        }
        return k < passes && k < passLevels.length ? passLevels[k] : NONE;
    }

    public int known(int flow, int link, int what) {
        if (!plan.has(flow) || !isLink(link) || !plan.goesOver(flow, link)) {
            return NONE;
        }
        switch (what) {
            case 0: return post.ahead[flow * LINKS + link];
            case 1: return post.behind[flow * LINKS + link];
            case 2: return post.isMarked(flow, link) ? 1 : 0;
            default: return NONE;
        }
    }

    public int booked(int link) {
        return isLink(link) ? post.bookedAt(link) : NONE;
    }

    public int over() {
        return post.overbooked();
    }

    public int settling(int what) {
        if (what < 0 || what > 2) {
            return NONE;
        }
        paper.copy(post);
        int done = 0;
        int overbooked = 0;
        boolean quiet = false;
        while (done < MOST_ROUNDS_ON_PAPER && !quiet) {
            quiet = paper.goRound();
            done++;
            if (paper.overbooked() != 0) {
                overbooked++;
            }
        }
        if (what == 0) {
            return quiet ? done : MOST_ROUNDS_ON_PAPER + 1;
        }
        if (what == 1) {
            return overbooked;
        }
        return farFromFair(paper) == 0 ? 1 : 0;
    }

    public int swings(int flow, int n, int what) {
        if (!plan.has(flow) || !isPaperRounds(n) || what < 0 || what > 2) {
            return NONE;
        }
        paper.copy(post);
        int turns = 0;
        int greatest = 0;
        int least = TOP;
        for (int i = 0; i < n; i++) {
            int before = paper.told[flow];
            paper.goRound();
            int told = paper.told[flow];
            turns += told != before ? 1 : 0;
            greatest = Math.max(greatest, told);
            least = Math.min(least, told);
        }
        if (what == 0) {
            return turns;
        }
        return what == 1 ? greatest : least;
    }

    public int peak(int link, int n) {
        if (!isLink(link) || !isPaperRounds(n)) {
            return NONE;
        }
        paper.copy(post);
        int greatest = 0;
        for (int i = 0; i < n; i++) {
            paper.goRound();
            greatest = Math.max(greatest, paper.bookedAt(link));
        }
        return greatest;
    }

    public long off() {
        return farFromFair(post);
    }

    // What would be.

    public int would(int links, int weight, int least, int want) {
        if (whyNoSuchFlow(plan, links, weight, least, want) != NONE) {
            return NONE;
        }
        int flow = newSheet().add(NONE, links, weight, least, want);
        then.rise();
        return then.rateOf(flow);
    }

    public int better(int flow, int links) {
        int why = whyNotRoute(flow, links);
        if (why != NONE && why != SO_ALREADY) {
            return NONE;
        }
        newSheet().setPath(flow, links);
        then.rise();
        return then.rateOf(flow);
    }

    public int spares(int flow, int want) {
        if (!plan.has(flow) || !isAmount(want) || want < plan.least[flow]) {
            return NO_ANSWER;
        }
        newSheet().setPart(flow, WANT, want);
        now.rise();
        then.rise();
        int others = plan.flows & ~(1 << flow);
        return then.ratesOf(others) - now.ratesOf(others);
    }

    public int weightFor(int flow, int rate) {
        if (!plan.has(flow)) {
            return NONE;
        }
        Plan sheet = newSheet();
        for (int weight = 1; weight <= GREATEST_WEIGHT; weight++) {
            sheet.setPart(flow, WEIGHT, weight);
            then.rise();
            if (then.rateOf(flow) >= rate) {
                return weight;
            }
        }
        return NONE;
    }

    public int roomFor(int links) {
        if (!isPath(links) || plan.freeNumber() == NONE) {
            return NONE;
        }
        int room = TOP;
        for (int l = 0; l < LINKS; l++) {
            if ((links >> l & 1) != 0) {
                room = Math.min(room, plan.capacity[l] - plan.boundOf(l));
            }
        }
        return room;
    }

    public int touched(int link) {
        if (!isLink(link) || plan.capacity[link] <= plan.boundOf(link)) {
            return NONE;
        }
        newSheet().setCapacity(link, plan.capacity[link] - 1);
        return otherLevels();
    }

    public int without(int flow, int other) {
        if (!plan.has(flow) || !plan.has(other) || flow == other) {
            return NO_ANSWER;
        }
        newSheet().remove(flow);
        now.rise();
        then.rise();
        return then.rateOf(other) - now.rateOf(other);
    }

    public int wider(int link, int more, int what) {
        if (!isLink(link) || more < 0 || what < 0 || what > 1 || plan.flows == 0) {
            return NO_ANSWER;
        }
        widen(link, more);
        now.rise();
        if (what == 0) {
            return then.leastLevel() - now.leastLevel();
        }
        return then.ratesOf(plan.flows) - now.ratesOf(plan.flows);
    }

    public int tight() {
        now.rise();
        int most = now.leastLevel();
        int link = NONE;
        for (int l = 0; l < LINKS; l++) {
            if (plan.crowd[l] != 0) {
                widen(l, MORE_WHERE_TIGHT);
                if (then.leastLevel() > most) {
                    most = then.leastLevel();
                    link = l;
                }
            }
        }
        return link;
    }

    public int enough(int link) {
        if (!isLink(link)) {
            return NONE;
        }
        // The capacities with the same levels lie side by side, up to the one it has: each step has
        // the same tides elsewhere, and the link's own tide never falls when its capacity grows.
        int low = plan.boundOf(link);
        int high = plan.capacity[link];
        Plan sheet = newSheet();
        for (int i = 0; i < MOST_HALVINGS && low < high; i++) {
            int middle = (low + high) / 2;
            sheet.setCapacity(link, middle);
            if (otherLevels() == 0) {
                high = middle;
            } else {
                low = middle + 1;
            }
        }
        return high;
    }

    public int storm(int seed, int n, int what) {
        if (seed < 0 || seed >= TOP || n < 1 || n > MOST_IN_STORM || what < 0 || what > 2) {
            return NONE;
        }
        paper.copy(post);
        int s = seed;
        int quiet = 0;
        int overbooked = 0;
        for (int i = 0; i < n; i++) {
            s = blow(s);
            quiet += paper.goRound() ? 1 : 0;
            overbooked += paper.overbooked() != 0 ? 1 : 0;
        }
        if (what == 0) {
            return quiet;
        }
        return what == 1 ? overbooked : Integer.bitCount(paper.plan.flows);
    }

    public int count(int what) {
        switch (what) {
            case 0: return Integer.bitCount(plan.flows);
            case 1: return Integer.bitCount(post.held);
            case 2: return Integer.bitCount(plan.linksInUse());
            case 3: return post.letterCount;
            case 4: return post.roundCount;
            case 5: return post.markCount();
            case 6: return refused[CANT_BE];
            case 7: return refused[NO_SUCH];
            case 8: return refused[SO_ALREADY];
            case 9: return refused[NO_ROOM];
            case 10: return refused[TOO_TIGHT];
            case 11: return post.lostCount;
            case 12: return post.underWay();
            case 13: return post.allToLose();
            default: return NONE;
        }
    }

    // What numbers can be, and why a call is refused.

    private static boolean isLink(int link) {
        return link >= 0 && link < LINKS;
    }

    private static boolean isAmount(int amount) {
        return amount >= 0 && amount <= TOP;
    }

    private static boolean isPath(int links) {
        return links > 0 && links <= ALL_LINKS;
    }

    private static boolean isWeight(int weight) {
        return weight >= 1 && weight <= GREATEST_WEIGHT;
    }

    private static boolean isPaperRounds(int n) {
        return n >= 1 && n <= MOST_ROUNDS_ON_PAPER;
    }

    /** Whether a part of a flow (as change() counts them) can be v for any flow. */
    private static boolean canBe(int what, int v) {
        if (what == WEIGHT) {
            return isWeight(v);
        }
        return (what == LEAST || what == WANT) && isAmount(v);
    }

    private int refuse(int why) {
        if (why >= 0 && why < REASONS) {
            refused[why]++;
        }
        return NONE;
    }

    /** Why a flow can't come whatever its name is; NONE if it can. */
    private static int whyNoSuchFlow(Plan plan, int links, int weight, int least, int want) {
        boolean isOne = isPath(links) && isWeight(weight) && isAmount(least) && isAmount(want);
        if (!isOne || want < least) {
            return CANT_BE;
        }
        if (plan.freeNumber() == NONE) {
            return NO_ROOM;
        }
        return plan.hasRoom(links, least) ? NONE : TOO_TIGHT;
    }

    private static int whyNotCome(Plan plan, int name, int links, int weight, int least, int want) {
        if (name < 0 || name >= TOP) {
            return CANT_BE;
        }
        int why = whyNoSuchFlow(plan, links, weight, least, want);
        boolean isTaken = plan.flowNamed(name) != NONE;
        return why != CANT_BE && isTaken ? SO_ALREADY : why;
    }

    private int whyNotRoute(int flow, int links) {
        if (!isPath(links)) {
            return CANT_BE;
        }
        if (!plan.has(flow)) {
            return NO_SUCH;
        }
        if (plan.path[flow] == links) {
            return SO_ALREADY;
        }
        int fresh = links & ~plan.path[flow];
        return plan.hasRoom(fresh, plan.least[flow]) ? NONE : TOO_TIGHT;
    }

    // On paper.

    /** Links and flows as they are, on paper; what letters told is not needed for what is fair. */
    private Plan newSheet() {
        paper.plan.copy(plan);
        return paper.plan;
    }

    private void widen(int link, int more) {
        int capacity = plan.capacity[link];
        newSheet().setCapacity(link, capacity + Math.min(more, TOP - capacity));
        then.rise();
    }

    /** The flows whose level on paper is another one than it is now. */
    private int otherLevels() {
        now.rise();
        then.rise();
        int bits = 0;
        for (int f = 0; f < FLOWS; f++) {
            if (plan.has(f) && then.level[f] != now.level[f]) {
                bits |= 1 << f;
            }
        }
        return bits;
    }

    private long farFromFair(Post told) {
        now.rise();
        long far = 0;
        for (int f = 0; f < FLOWS; f++) {
            if (plan.has(f)) {
                far += Math.abs(told.told[f] - now.level[f]);
            }
        }
        return far;
    }

    private static int draw(int s) {
        return (1_103 * s + 12_345) % 1_000_003;
    }

    /** What happens ahead of one round of a storm; the last draw. */
    private int blow(int s) {
        int drawn = draw(s);
        if (drawn % 4 == 0) {
            return someoneComes(drawn);
        }
        return drawn % 4 == 1 ? someoneGoes(drawn) : drawn;
    }

    private int someoneComes(int s) {
        int first = draw(s);
        int second = draw(first);
        int third = draw(second);
        int fourth = draw(third);
        int name = first % 1_000_000;
        int links = 1 + second % ALL_LINKS;
        int weight = 1 + third % GREATEST_WEIGHT;
        int want = fourth % 1_000;
        if (whyNotCome(paper.plan, name, links, weight, 0, want) == NONE) {
            paper.takeIn(name, links, weight, 0, want);
        }
        return fourth;
    }

    private int someoneGoes(int s) {
        int flows = Integer.bitCount(paper.plan.flows);
        if (flows == 0) {
            return s;
        }
        int drawn = draw(s);
        int ahead = drawn % flows;
        for (int f = 0; f < FLOWS; f++) {
            if (paper.plan.has(f)) {
                if (ahead == 0) {
                    paper.letGo(f);
                    return drawn;
                }
                ahead--;
            }
        }
        return drawn;
    }

    private static long commonDivisor(long a, long b) {
        long greater = a;
        long less = b;
        // Two steps halve the greater at least: 64 bits are used up long before this bound.
        for (int i = 0; i < 200 && less != 0; i++) {
            long rest = greater % less;
            greater = less;
            less = rest;
        }
        return greater;
    }

    /** Links with capacities and the flows over them. Its parts are changed by its methods alone. */
    private static final class Plan {
        final int[] capacity = new int[LINKS];
        /** The flows of each link, as bits. */
        final int[] crowd = new int[LINKS];
        final int[] name = new int[FLOWS];
        final int[] path = new int[FLOWS];
        final int[] weight = new int[FLOWS];
        final int[] least = new int[FLOWS];
        final int[] want = new int[FLOWS];
        /** The flows that there are, as bits. */
        int flows;
        /** Grows with each change, so that what was reckoned from this plan is known to be old. */
        int edits;

        void copy(Plan from) {
            System.arraycopy(from.capacity, 0, capacity, 0, LINKS);
            System.arraycopy(from.crowd, 0, crowd, 0, LINKS);
            System.arraycopy(from.name, 0, name, 0, FLOWS);
            System.arraycopy(from.path, 0, path, 0, FLOWS);
            System.arraycopy(from.weight, 0, weight, 0, FLOWS);
            System.arraycopy(from.least, 0, least, 0, FLOWS);
            System.arraycopy(from.want, 0, want, 0, FLOWS);
            flows = from.flows;
            edits++;
        }

        boolean has(int flow) {
            return flow >= 0 && flow < FLOWS && (flows >> flow & 1) != 0;
        }

        boolean goesOver(int flow, int link) {
            return (path[flow] >> link & 1) != 0;
        }

        int freeNumber() {
            for (int f = 0; f < FLOWS; f++) {
                if (!has(f)) {
                    return f;
                }
            }
            return NONE;
        }

        int flowNamed(int wanted) {
            for (int f = 0; f < FLOWS; f++) {
                if (has(f) && name[f] == wanted) {
                    return f;
                }
            }
            return NONE;
        }

        void setCapacity(int link, int amount) {
            capacity[link] = amount;
            edits++;
        }

        int partOf(int flow, int what) {
            if (what == WEIGHT) {
                return weight[flow];
            }
            return what == LEAST ? least[flow] : want[flow];
        }

        void setPart(int flow, int what, int v) {
            if (what == WEIGHT) {
                weight[flow] = v;
            } else if (what == LEAST) {
                least[flow] = v;
            } else {
                want[flow] = v;
            }
            edits++;
        }

        /** The flow's number; NONE if there is no room, which its callers have looked at. */
        int add(int itsName, int links, int itsWeight, int itsLeast, int itsWant) {
            int flow = freeNumber();
            if (flow == NONE) {
                return NONE;
            }
            flows |= 1 << flow;
            name[flow] = itsName;
            weight[flow] = itsWeight;
            least[flow] = itsLeast;
            want[flow] = itsWant;
            setPath(flow, links);
            return flow;
        }

        void remove(int flow) {
            setPath(flow, 0);
            flows &= ~(1 << flow);
        }

        void setPath(int flow, int links) {
            path[flow] = links;
            for (int l = 0; l < LINKS; l++) {
                int others = crowd[l] & ~(1 << flow);
                crowd[l] = goesOver(flow, l) ? others | 1 << flow : others;
            }
            edits++;
        }

        int linksInUse() {
            int bits = 0;
            for (int l = 0; l < LINKS; l++) {
                bits |= crowd[l] != 0 ? 1 << l : 0;
            }
            return bits;
        }

        int boundOf(int link) {
            int bound = 0;
            for (int f = 0; f < FLOWS; f++) {
                if ((crowd[link] >> f & 1) != 0) {
                    bound += least[f];
                }
            }
            return bound;
        }

        /** Whether so much more of LEAST leaves no BOUND of these links above its CAPACITY. */
        boolean hasRoom(int links, int more) {
            for (int l = 0; l < LINKS; l++) {
                if ((links >> l & 1) != 0 && boundOf(l) + more > capacity[l]) {
                    return false;
                }
            }
            return true;
        }

        int ownOf(int flow) {
            return byWeight(flow, want[flow]);
        }

        int rateBy(int flow, int level) {
            return Math.max(weight[flow] * level, least[flow]);
        }

        private int byWeight(int flow, int amount) {
            return weight[flow] < 1 ? 0 : amount / weight[flow];
        }

        /**
         * The greatest LEVEL by which the RATES of a link's flows, each by the less of it and its
         * limit, are not above CAPACITY together. Goes up from 0, which BOUND allows, piece by piece:
         * between two levels where a flow begins to rise above its LEAST or comes to its limit, all
         * rates together are a straight line.
         */
        int greatestLevel(int link, int[] limit) {
            int on = crowd[link];
            int t = 0;
            for (int piece = 0; piece <= 2 * FLOWS && t < TOP; piece++) {
                int sum = 0;
                int slope = 0;
                int next = TOP;
                for (int f = 0; f < FLOWS; f++) {
                    if ((on >> f & 1) == 0) {
                        continue;
                    }
                    int start = byWeight(f, least[f]);
                    if (t >= limit[f]) {
                        sum += rateBy(f, limit[f]);
                    } else if (t >= start) {
                        // At its start the line may be below LEAST; t is known to be allowed there.
                        sum += weight[f] * t;
                        slope += weight[f];
                        next = Math.min(next, limit[f]);
                    } else {
                        sum += least[f];
                        next = Math.min(next, Math.min(start, limit[f]));
                    }
                }
                int reach = slope < 1 ? TOP : t + (capacity[link] - sum) / slope;
                if (reach < next) {
                    return reach;
                }
                t = next;
            }
            return t;
        }
    }

    /** FAIR over a plan, step by step. */
    private static final class Water {
        final Plan plan;
        /** The LEVEL of each flow that is FIXED; TOP while it is not, so that it bounds nothing. */
        final int[] level = new int[FLOWS];
        final int[] witness = new int[FLOWS];
        final int[] stepOf = new int[FLOWS];
        final int[] stepLevel = new int[FLOWS];
        final int[] stepFlows = new int[FLOWS];
        final int[] stepLinks = new int[FLOWS];
        final int[] tide = new int[LINKS];
        int steps;
        private int seenEdits = NONE;

        Water(Plan plan) {
            this.plan = plan;
        }

        /** To be called ahead of every look at the rows above. */
        void rise() {
            if (seenEdits == plan.edits) {
                return;
            }
            seenEdits = plan.edits;
            Arrays.fill(level, TOP);
            steps = 0;
            int open = plan.flows;
            for (int k = 0; k < FLOWS && open != 0; k++) {
                int surface = nextSurface(open);
                int full = linksAt(surface);
                int fixed = fixedBy(open, surface, full);
                stepLevel[k] = surface;
                stepLinks[k] = full;
                stepFlows[k] = fixed;
                fix(fixed, k);
                open &= ~fixed;
                steps = k + 1;
            }
        }

        /**
         * The least of all tides and of all own levels. A FIXED flow's level serves as its limit: no
         * later tide is below it, so by every tide its rate is the one that it has.
         */
        private int nextSurface(int open) {
            int least = TOP;
            for (int l = 0; l < LINKS; l++) {
                tide[l] = NONE;
                if ((plan.crowd[l] & open) != 0) {
                    tide[l] = plan.greatestLevel(l, level);
                    least = Math.min(least, tide[l]);
                }
            }
            for (int f = 0; f < FLOWS; f++) {
                if ((open >> f & 1) != 0) {
                    least = Math.min(least, plan.ownOf(f));
                }
            }
            return least;
        }

        private int linksAt(int surface) {
            int bits = 0;
            for (int l = 0; l < LINKS; l++) {
                bits |= tide[l] == surface ? 1 << l : 0;
            }
            return bits;
        }

        private int fixedBy(int open, int surface, int full) {
            int bits = 0;
            for (int f = 0; f < FLOWS; f++) {
                if ((open >> f & 1) != 0
                        && (plan.ownOf(f) == surface || (plan.path[f] & full) != 0)) {
                    bits |= 1 << f;
                }
            }
            return bits;
        }

        private void fix(int fixed, int k) {
            for (int f = 0; f < FLOWS; f++) {
                if ((fixed >> f & 1) != 0) {
                    level[f] = stepLevel[k];
                    stepOf[f] = k;
                    int full = plan.path[f] & stepLinks[k];
                    witness[f] = full == 0 ? NO_WITNESS : Integer.numberOfTrailingZeros(full);
                }
            }
        }

        int rateOf(int flow) {
            return plan.has(flow) ? plan.rateBy(flow, level[flow]) : NONE;
        }

        int ratesOf(int bits) {
            int sum = 0;
            for (int f = 0; f < FLOWS; f++) {
                if ((bits >> f & 1) != 0) {
                    sum += plan.rateBy(f, level[f]);
                }
            }
            return sum;
        }

        int leftOf(int link) {
            return plan.capacity[link] - ratesOf(plan.crowd[link]);
        }

        int witnessedBy(int link) {
            int number = 0;
            for (int f = 0; f < FLOWS; f++) {
                number += plan.has(f) && witness[f] == link ? 1 : 0;
            }
            return number;
        }

        int leastLevel() {
            int least = NONE;
            for (int f = 0; f < FLOWS; f++) {
                if (plan.has(f) && (least == NONE || level[f] < least)) {
                    least = level[f];
                }
            }
            return least;
        }

        int greatestLevel() {
            int greatest = NONE;
            for (int f = 0; f < FLOWS; f++) {
                if (plan.has(f)) {
                    greatest = Math.max(greatest, level[f]);
                }
            }
            return greatest;
        }

        /** Of some flows those with a level below a bound. */
        int below(int bits, int bound) {
            int found = 0;
            for (int f = 0; f < FLOWS; f++) {
                if ((bits >> f & 1) != 0 && level[f] < bound) {
                    found |= 1 << f;
                }
            }
            return found;
        }

        /** How many flows come ahead of one by level, then number. */
        int rankOf(int flow) {
            int lower = (1 << flow) - 1;
            int less = below(plan.flows, level[flow]);
            int lessOrSame = below(plan.flows, level[flow] + 1);
            return Integer.bitCount(less | lessOrSame & lower);
        }

        /** How many links with flows come ahead of one by what is left, then number. */
        int fullnessOf(int link) {
            int left = leftOf(link);
            int number = 0;
            for (int l = 0; l < LINKS; l++) {
                if (plan.crowd[l] != 0) {
                    int other = leftOf(l);
                    number += other < left || other == left && l < link ? 1 : 0;
                }
            }
            return number;
        }
    }

    /** A plan with all that letters have told of it, and the letters under way: what keep() keeps. */
    private static final class Post {
        private static final int AT_REST = 0;
        private static final int FORTH = 1;
        private static final int BACK = 2;
        private static final int BACK_SIGN = 20;
        private static final int LOST_SIGN = 50;
        private static final int UNKNOWN = -1;

        final Plan plan = new Plan();
        /** By flow times LINKS and link; TOP where the flow does not go. */
        final int[] ahead = new int[FLOWS * LINKS];
        final int[] behind = new int[FLOWS * LINKS];
        final int[] told = new int[FLOWS];
        final int[] toLose = new int[LINKS];
        /** Of each flow's letter under way: which way, to which link next, with which level. */
        final int[] way = new int[FLOWS];
        final int[] nextLink = new int[FLOWS];
        final int[] borne = new int[FLOWS];
        /** HELD flows, as bits. */
        int held;
        int letterCount;
        int roundCount;
        int lostCount;

        /** What each link advertises as long as nothing that it knows changes, or UNKNOWN. */
        private final int[] offer = new int[LINKS];
        private int seenEdits = NONE;
        private final int[] limit = new int[FLOWS];
        /** Whether any AHEAD, BEHIND or TOLD became another one since the round began. */
        private boolean isStirred;

        Post() {
            Arrays.fill(ahead, TOP);
            Arrays.fill(behind, TOP);
        }

        void copy(Post from) {
            plan.copy(from.plan);
            System.arraycopy(from.ahead, 0, ahead, 0, FLOWS * LINKS);
            System.arraycopy(from.behind, 0, behind, 0, FLOWS * LINKS);
            System.arraycopy(from.told, 0, told, 0, FLOWS);
            System.arraycopy(from.toLose, 0, toLose, 0, LINKS);
            System.arraycopy(from.way, 0, way, 0, FLOWS);
            System.arraycopy(from.nextLink, 0, nextLink, 0, FLOWS);
            System.arraycopy(from.borne, 0, borne, 0, FLOWS);
            held = from.held;
            letterCount = from.letterCount;
            roundCount = from.roundCount;
            lostCount = from.lostCount;
        }

        int takeIn(int name, int links, int weight, int least, int want) {
            return plan.add(name, links, weight, least, want);
        }

        /** Leaves nothing of the flow, so that its number can be given again as a new one. */
        void letGo(int flow) {
            plan.remove(flow);
            forgetFlow(flow);
            held &= ~(1 << flow);
        }

        void reroute(int flow, int links) {
            plan.setPath(flow, links);
            for (int l = 0; l < LINKS; l++) {
                if (!plan.goesOver(flow, l)) {
                    forgetAt(flow, l);
                }
            }
            way[flow] = AT_REST;
        }

        void forgetAll() {
            for (int f = 0; f < FLOWS; f++) {
                forgetFlow(f);
            }
        }

        private void forgetFlow(int flow) {
            for (int l = 0; l < LINKS; l++) {
                forgetAt(flow, l);
            }
            told[flow] = 0;
            way[flow] = AT_REST;
        }

        private void forgetAt(int flow, int link) {
            ahead[flow * LINKS + link] = TOP;
            behind[flow * LINKS + link] = TOP;
            offer[link] = UNKNOWN;
        }

        boolean isHeld(int flow) {
            return (held >> flow & 1) != 0;
        }

        int elsewhere(int flow, int link) {
            return Math.min(ahead[flow * LINKS + link], behind[flow * LINKS + link]);
        }

        /** What a link ADVERTISES. */
        int offerOf(int link) {
            if (seenEdits != plan.edits) {
                Arrays.fill(offer, UNKNOWN);
                seenEdits = plan.edits;
            }
            if (offer[link] == UNKNOWN) {
                for (int f = 0; f < FLOWS; f++) {
                    if (plan.goesOver(f, link)) {
                        limit[f] = elsewhere(f, link);
                    }
                }
                offer[link] = plan.greatestLevel(link, limit);
            }
            return offer[link];
        }

        boolean isMarked(int flow, int link) {
            return elsewhere(flow, link) < offerOf(link);
        }

        int markCount() {
            int marks = 0;
            for (int f = 0; f < FLOWS; f++) {
                for (int l = 0; l < LINKS; l++) {
                    marks += plan.has(f) && plan.goesOver(f, l) && isMarked(f, l) ? 1 : 0;
                }
            }
            return marks;
        }

        /**
         * How many passes a link needs to find its marks, with the level of each. A marked flow's
         * ELSEWHERE serves as its limit: no later level is below it.
         */
        int findMarks(int link, int[] levels) {
            Arrays.fill(limit, TOP);
            int passes = 0;
            boolean isNew = true;
            while (isNew && passes < levels.length) {
                int t = plan.greatestLevel(link, limit);
                levels[passes] = t;
                passes++;
                isNew = markBelow(link, t);
            }
            return passes;
        }

        private boolean markBelow(int link, int t) {
            boolean isNew = false;
            for (int f = 0; f < FLOWS; f++) {
                int bound = elsewhere(f, link);
                if ((plan.crowd[link] >> f & 1) != 0 && bound < t && limit[f] == TOP) {
                    limit[f] = bound;
                    isNew = true;
                }
            }
            return isNew;
        }

        private void tellAhead(int flow, int link, int u) {
            if (ahead[flow * LINKS + link] != u) {
                ahead[flow * LINKS + link] = u;
                offer[link] = UNKNOWN;
                isStirred = true;
            }
        }

        private void tellBehind(int flow, int link, int v) {
            if (behind[flow * LINKS + link] != v) {
                behind[flow * LINKS + link] = v;
                offer[link] = UNKNOWN;
                isStirred = true;
            }
        }

        private void tell(int flow, int u) {
            if (told[flow] != u) {
                told[flow] = u;
                isStirred = true;
            }
        }

        private boolean isLostAt(int link) {
            if (toLose[link] < 1) {
                return false;
            }
            toLose[link]--;
            lostCount++;
            return true;
        }

        /** A letter forth and back at once. */
        void send(int flow) {
            letterCount++;
            int u = plan.ownOf(flow);
            for (int l = 0; l < LINKS; l++) {
                if (plan.goesOver(flow, l)) {
                    tellAhead(flow, l, u);
                    if (isLostAt(l)) {
                        return;
                    }
                    u = Math.min(u, offerOf(l));
                }
            }
            tell(flow, u);
            int v = TOP;
            for (int l = LINKS - 1; l >= 0; l--) {
                if (plan.goesOver(flow, l)) {
                    tellBehind(flow, l, v);
                    v = Math.min(v, offerOf(l));
                }
            }
        }

        /** Whether the round was QUIET. */
        boolean goRound() {
            isStirred = false;
            for (int f = 0; f < FLOWS; f++) {
                if (plan.has(f) && !isHeld(f)) {
                    send(f);
                }
            }
            roundCount++;
            return !isStirred;
        }

        /** The letter under way goes on by one link; one begins, if there is none. */
        int goOn(int flow) {
            if (way[flow] == AT_REST) {
                letterCount++;
                way[flow] = FORTH;
                nextLink[flow] = lowestFrom(flow, 0);
                borne[flow] = plan.ownOf(flow);
            }
            int link = nextLink[flow];
            if (!isLink(link)) {
                way[flow] = AT_REST;
                return NONE;
            }
            return way[flow] == FORTH ? arriveForth(flow, link) : arriveBack(flow, link);
        }

        private int arriveForth(int flow, int link) {
            tellAhead(flow, link, borne[flow]);
            if (isLostAt(link)) {
                way[flow] = AT_REST;
                return LOST_SIGN + link;
            }
            borne[flow] = Math.min(borne[flow], offerOf(link));
            nextLink[flow] = lowestFrom(flow, link + 1);
            if (nextLink[flow] == NONE) {
                tell(flow, borne[flow]);
                way[flow] = BACK;
                nextLink[flow] = link;
                borne[flow] = TOP;
            }
            return link;
        }

        private int arriveBack(int flow, int link) {
            tellBehind(flow, link, borne[flow]);
            borne[flow] = Math.min(borne[flow], offerOf(link));
            nextLink[flow] = highestBelow(flow, link);
            if (nextLink[flow] == NONE) {
                way[flow] = AT_REST;
            }
            return BACK_SIGN + link;
        }

        private int lowestFrom(int flow, int from) {
            for (int l = from; l < LINKS; l++) {
                if (plan.goesOver(flow, l)) {
                    return l;
                }
            }
            return NONE;
        }

        private int highestBelow(int flow, int bound) {
            for (int l = bound - 1; l >= 0; l--) {
                if (plan.goesOver(flow, l)) {
                    return l;
                }
            }
            return NONE;
        }

        int bookedAt(int link) {
            int sum = 0;
            for (int f = 0; f < FLOWS; f++) {
                if ((plan.crowd[link] >> f & 1) != 0) {
                    sum += plan.rateBy(f, told[f]);
                }
            }
            return sum;
        }

        /** OVERBOOKED links, as bits. */
        int overbooked() {
            int bits = 0;
            for (int l = 0; l < LINKS; l++) {
                bits |= bookedAt(l) > plan.capacity[l] ? 1 << l : 0;
            }
            return bits;
        }

        int underWay() {
            int number = 0;
            for (int f = 0; f < FLOWS; f++) {
                number += way[f] != AT_REST ? 1 : 0;
            }
            return number;
        }

        int allToLose() {
            int sum = 0;
            for (int l = 0; l < LINKS; l++) {
                sum += toLose[l];
            }
            return sum;
        }
    }
}

/** Promises 15 to 25: links and flows as they are, and what is fair. */
public final class FairTest {
    private FairTest() {
    }

    private static FairRates two() {
        FairRates x = new FairRates();
        x.link(0, 100);
        x.link(9, 70);
        x.come(42, 513, 3, 10, 100);
        x.come(43, 512, 1, 20, 25);
        return x;
    }

    /** One link with flows of weight 1 that want 100 and 5. */
    private static FairRates pair(int capacity) {
        FairRates x = new FairRates();
        x.link(4, capacity);
        x.come(1, 16, 1, 0, 100);
        x.come(2, 16, 1, 0, 5);
        return x;
    }

    private static void row(String call, int[] got, int... due) {
        for (int i = 0; i < due.length; i++) {
            Due.same(call + " " + i, got[i], due[i]);
        }
    }

    private static void p15Links() {
        FairRates x = two();
        row("15: link 0", new int[] {x.links(0, 0), x.links(0, 1), x.links(0, 2)}, 100, 10, 1);
        row("15: link 9", new int[] {x.links(9, 0), x.links(9, 1), x.links(9, 2)}, 70, 30, 3);
        row("15: link 5", new int[] {x.links(5, 0), x.links(5, 1), x.links(5, 2)}, 0, 0, 0);
        Due.none("15: link -1", x.links(-1, 0));
        Due.none("15: link 10", x.links(10, 0));
        Due.none("15: what -1", x.links(0, -1));
        Due.none("15: what 3", x.links(0, 3));
        Due.same("15: not refused", x.count(6), 0);
        Due.same("15: 20 flows", Nets.full().links(0, 2), (1 << 20) - 1);
    }

    private static void p16Flow() {
        FairRates x = two();
        int[] due = {42, 513, 3, 10, 100, 33, 0, 0, 10};
        for (int what = 0; what <= 8; what++) {
            Due.same("16: flow(0, " + what + ")", x.flow(0, what), due[what]);
        }
        x.hold(0, true);
        x.letter(0);
        x.letter(1);
        Due.same("16: held", x.flow(0, 6), 1);
        Due.same("16: told", x.flow(0, 7), 16);
        Due.same("16: rate by that", x.flow(0, 8), 48);
        Due.same("16: told where least is more", x.flow(1, 7), 16);
        Due.same("16: rate is least there", x.flow(1, 8), 20);
        x.change(0, 0, 2);
        Due.same("16: rate by the weight as it is now", x.flow(0, 8), 32);
        x.change(0, 2, 10);
        Due.same("16: rate is not bound by want", x.flow(0, 8), 32);
        Due.same("16: own, downwards", x.flow(1, 5), 25);
        Due.none("16: what 9", x.flow(0, 9));
        Due.none("16: what -1", x.flow(0, -1));
        Due.noSuch("16: flow 2", () -> x.flow(2, 0));
        Due.noSuch("16: flow -1", () -> x.flow(-1, 0));
        Due.noSuch("16: flow 20", () -> x.flow(20, 0));
        Due.noSuch("16: flow 32", () -> x.flow(32, 0));
        Due.noSuch("16: no such flow before what", () -> x.flow(2, 9));
    }

    private static void p17Named() {
        FairRates x = two();
        Due.same("17: first", x.named(42), 0);
        Due.same("17: second", x.named(43), 1);
        Due.none("17: none", x.named(44));
        Due.none("17: 0, which no flow has", x.named(0));
        Due.none("17: -1", x.named(-1));
        x.go(0);
        Due.none("17: gone", x.named(42));
        Due.same("17: still", x.named(43), 1);
    }

    private static void p18Fair() {
        FairRates x = Nets.six();
        int[] rates = {20, 68, 40, 18, 12, 10};
        int[] levels = {20, 68, 20, 6, 6, 5};
        int[] witnesses = {1, 0, 1, 2, 2, 10};
        int[] steps = {2, 3, 2, 1, 1, 0};
        for (int f = 0; f < 6; f++) {
            Due.same("18: rate of " + f, x.fair(f, 0), rates[f]);
            Due.same("18: level of " + f, x.fair(f, 1), levels[f]);
            Due.same("18: witness of " + f, x.fair(f, 2), witnesses[f]);
            Due.same("18: step of " + f, x.fair(f, 3), steps[f]);
        }
        Due.none("18: what 4", x.fair(0, 4));
        Due.none("18: what -1", x.fair(0, -1));
        Due.noSuch("18: flow 6", () -> x.fair(6, 0));
        Due.noSuch("18: flow -1", () -> x.fair(-1, 9));
        x.hold(0, true);
        Due.same("18: held or not", x.fair(0, 1), 20);
        FairRates y = pair(11);
        row("18: own and tide alike", new int[] {y.fair(0, 1), y.fair(1, 1), y.fair(0, 2), y.fair(1, 2), y.fair(0, 3)},
                5, 5, 4, 4, 0);
        FairRates z = pair(12);
        row("18: own less than tide", new int[] {z.fair(0, 1), z.fair(1, 1), z.fair(0, 2), z.fair(1, 2), z.fair(0, 3)},
                7, 5, 4, 10, 1);
        FairRates w = new FairRates();
        w.link(2, 8);
        w.link(7, 8);
        w.come(1, 132, 2, 0, 50);
        Due.same("18: the first link of like tide", w.fair(0, 2), 2);
        w.link(7, 1_000_000);
        w.link(2, 1_000_000);
        w.change(0, 0, 1);
        w.change(0, 2, 1_000_000);
        Due.same("18: as much as can be", w.fair(0, 0), 1_000_000);
        Due.same("18: by a full link", w.fair(0, 2), 2);
        w.link(7, 0);
        Due.same("18: nothing", w.fair(0, 0), 0);
        Due.same("18: by an empty link", w.fair(0, 2), 7);
        FairRates v = new FairRates();
        v.link(0, 55);
        v.come(1, 1, 1, 50, 60);
        Due.same("18: above least", v.fair(0, 0), 55);
        v.come(2, 1, 1, 0, 60);
        row("18: beside a least", new int[] {v.fair(0, 0), v.fair(0, 1), v.fair(1, 0), v.fair(1, 1)}, 50, 5, 5, 5);
    }

    private static void p19Used() {
        FairRates x = Nets.six();
        row("19: link 0", new int[] {x.used(0, 0), x.used(0, 1), x.used(0, 2)}, 100, 0, 1);
        row("19: link 1", new int[] {x.used(1, 0), x.used(1, 1), x.used(1, 2)}, 60, 2, 2);
        row("19: link 2", new int[] {x.used(2, 0), x.used(2, 1), x.used(2, 2)}, 30, 0, 2);
        row("19: link 3", new int[] {x.used(3, 0), x.used(3, 1), x.used(3, 2)}, 10, 990, 0);
        row("19: link 4", new int[] {x.used(4, 0), x.used(4, 1), x.used(4, 2)}, 0, 0, 0);
        Due.none("19: link -1", x.used(-1, 0));
        Due.none("19: link 10, which is the witness of flow 5", x.used(10, 2));
        Due.none("19: what 3", x.used(0, 3));
        Due.none("19: what -1", x.used(0, -1));
        x.go(1);
        Due.same("19: a gone one is no witness's", x.used(0, 2), 0);
    }

    private static void p20Water() {
        FairRates x = Nets.six();
        row("20: six", new int[] {x.water(0), x.water(1), x.water(2), x.water(3)}, 4, 5, 68, 168);
        FairRates y = new FairRates();
        row("20: no flows", new int[] {y.water(0), y.water(1), y.water(2), y.water(3)}, 0, -1, -1, 0);
        Due.none("20: what 4", x.water(4));
        Due.none("20: what -1", x.water(-1));
        FairRates z = Nets.full();
        row("20: twenty", new int[] {z.water(0), z.water(1), z.water(2), z.water(3)}, 1, 5, 5, 100);
        FairRates w = pair(12);
        row("20: the first has most", new int[] {w.water(0), w.water(1), w.water(2), w.water(3)}, 2, 5, 7, 12);
        w.go(0);
        w.go(1);
        row("20: all are gone", new int[] {w.water(0), w.water(1), w.water(2), w.water(3)}, 0, -1, -1, 0);
    }

    private static void p21Step() {
        FairRates x = Nets.six();
        int[][] due = {{5, 32, 0, 10}, {6, 24, 4, 30}, {20, 5, 2, 60}, {68, 2, 1, 68}};
        for (int k = 0; k < 4; k++) {
            for (int what = 0; what < 4; what++) {
                Due.same("21: step(" + k + ", " + what + ")", x.step(k, what), due[k][what]);
            }
            Due.none("21: what 4", x.step(k, 4));
            Due.none("21: what -1", x.step(k, -1));
        }
        Due.none("21: step 4", x.step(4, 0));
        Due.none("21: step -1", x.step(-1, 0));
        Due.none("21: step 20", x.step(20, 0));
        Due.none("21: no flows", new FairRates().step(0, 0));
        FairRates y = pair(11);
        Due.same("21: links of that tide, by own, too", y.step(0, 2), 16);
        Due.same("21: all at once", y.step(0, 1), 3);
        x.go(5);
        Due.none("21: one step less", x.step(3, 0));
        Due.same("21: not the links of later ones", x.step(1, 2), 2);
        FairRates z = new FairRates();
        z.link(0, 10);
        z.link(1, 10);
        z.come(1, 1, 1, 0, 5);
        z.come(2, 2, 1, 0, 50);
        Due.same("21: links whose flows are fixed do not count", z.step(1, 2), 2);
    }

    private static void p22Ranked() {
        FairRates x = Nets.six();
        row("22: six", new int[] {x.ranked(0), x.ranked(1), x.ranked(2), x.ranked(3), x.ranked(4), x.ranked(5)},
                5, 3, 4, 0, 2, 1);
        Due.none("22: 6", x.ranked(6));
        Due.none("22: -1", x.ranked(-1));
        Due.none("22: no flows", new FairRates().ranked(0));
        for (int k = 0; k < 20; k++) {
            Due.same("22: all alike", Nets.full().ranked(k), k);
        }
    }

    private static void p23Proof() {
        FairRates x = Nets.six();
        row("23: flow 0", new int[] {x.proof(0, 0), x.proof(0, 1), x.proof(0, 2)}, 0, 2, 0);
        row("23: flow 1", new int[] {x.proof(1, 0), x.proof(1, 1), x.proof(1, 2)}, 0, 1, 32);
        row("23: flow 4", new int[] {x.proof(4, 0), x.proof(4, 1), x.proof(4, 2)}, 0, 2, 0);
        Due.none("23: what 3", x.proof(0, 3));
        Due.none("23: what -1", x.proof(0, -1));
        Due.none("23: no witness", x.proof(5, 0));
        Due.noSuch("23: flow 6", () -> x.proof(6, 0));
        Due.noSuch("23: flow -1", () -> x.proof(-1, 3));
        Due.noSuch("23: no flows", () -> new FairRates().proof(0, 0));
    }

    private static void p24Fullest() {
        FairRates x = Nets.six();
        row("24: six", new int[] {x.fullest(0), x.fullest(1), x.fullest(2), x.fullest(3)}, 0, 2, 1, 3);
        Due.none("24: 4, of those that have flows", x.fullest(4));
        Due.none("24: -1", x.fullest(-1));
        Due.none("24: no flows", new FairRates().fullest(0));
        x.link(0, 101);
        Due.same("24: what goes to the flows leaves nothing", x.fullest(0), 0);
        x.change(1, 2, 60);
        Due.same("24: what is left counts", x.fullest(2), 0);
        x.link(1, 60);
        row("24: then by number", new int[] {x.fullest(0), x.fullest(1), x.fullest(2), x.fullest(3)}, 1, 2, 0, 3);
    }

    private static void p25Even() {
        FairRates x = Nets.six();
        Due.same("25: six, upper", x.even(0), 588);
        Due.same("25: six, lower", x.even(1), 899);
        Due.same("25: all alike, upper", Nets.full().even(0), 1);
        Due.same("25: all alike, lower", Nets.full().even(1), 1);
        FairRates y = new FairRates();
        Due.none("25: no flows", y.even(0));
        y.link(0, 1_000_000);
        y.link(1, 1);
        y.come(1, 2, 1, 0, 0);
        y.come(9, 1, 1, 0, 1);
        Due.same("25: one has 1, upper", y.even(0), 1);
        Due.same("25: one has 1, lower", y.even(1), 2);
        y.go(1);
        Due.none("25: all are 0, upper", y.even(0));
        Due.none("25: all are 0, lower", y.even(1));
        y.change(0, 2, 1);
        y.come(2, 1, 1, 0, 1_000_000);
        Due.same("25: great, upper", y.even(0), 1_000_002_000_001L);
        Due.same("25: great, lower", y.even(1), 2_000_000_000_002L);
        y.change(0, 2, 0);
        Due.same("25: one has nothing, upper", y.even(0), 1);
        Due.same("25: one has nothing, lower", y.even(1), 2);
        Due.none("25: what 2", x.even(2));
        Due.none("25: what -1", x.even(-1));
    }

    public static void main(String[] args) {
        p15Links();
        p16Flow();
        p17Named();
        p18Fair();
        p19Used();
        p20Water();
        p21Step();
        p22Ranked();
        p23Proof();
        p24Fullest();
        p25Even();
        Due.end();
    }
}

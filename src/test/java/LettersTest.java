/** Promises 26 to 34: what links advertise, what letters told, and how it would go on. */
public final class LettersTest {
    private LettersTest() {
    }

    /** Link 0 (100) with three flows; letters told it that 0 and 1 are bound to 10 and 40 elsewhere. */
    private static FairRates bound() {
        FairRates x = new FairRates();
        x.link(0, 100);
        x.link(1, 10);
        x.link(2, 40);
        x.come(1, 3, 1, 0, 1000);
        x.come(2, 5, 1, 0, 1000);
        x.come(3, 1, 1, 0, 1000);
        x.letter(0);
        x.letter(1);
        return x;
    }

    private static void p26Advertised() {
        FairRates x = Nets.three();
        Due.same("26: link 0", x.advertised(0), 50);
        Due.same("26: link 1", x.advertised(1), 20);
        Due.same("26: without flows", x.advertised(5), 1_000_000);
        Due.none("26: -1", x.advertised(-1));
        Due.none("26: 10", x.advertised(10));
        x.link(0, 33);
        Due.same("26: by the capacity as it is", x.advertised(0), 16);
        x.change(0, 1, 20);
        Due.same("26: by the least as it is", x.advertised(0), 13);
        x.go(1);
        Due.same("26: one less", x.advertised(0), 33);
        FairRates y = new FairRates();
        y.link(0, 70);
        y.come(1, 1, 1, 0, 1000);
        y.come(2, 1, 2, 50, 1000);
        Due.same("26: below a least", y.advertised(0), 20);
        y.link(0, 101);
        Due.same("26: above it", y.advertised(0), 33);
        y.link(0, 50);
        Due.same("26: nothing is left", y.advertised(0), 0);
        Due.same("26: bound elsewhere", bound().advertised(0), 50);
        FairRates z = bound();
        z.change(2, 2, 30);
        z.letter(2);
        Due.same("26: all bound elsewhere", z.advertised(0), 1_000_000);
    }

    private static void p27Pass() {
        FairRates x = bound();
        Due.same("27: passes", x.pass(0, -1), 3);
        Due.same("27: first", x.pass(0, 0), 33);
        Due.same("27: second", x.pass(0, 1), 45);
        Due.same("27: last", x.pass(0, 2), 50);
        Due.none("27: no fourth", x.pass(0, 3));
        Due.none("27: k -2", x.pass(0, -2));
        Due.none("27: k MIN", x.pass(0, Integer.MIN_VALUE));
        Due.none("27: k MAX", x.pass(0, Integer.MAX_VALUE));
        Due.none("27: link -1", x.pass(-1, -1));
        Due.none("27: link 10", x.pass(10, 0));
        Due.same("27: no flows, one pass", x.pass(9, -1), 1);
        Due.same("27: no flows", x.pass(9, 0), 1_000_000);
        Due.none("27: no flows, no second", x.pass(9, 1));
        x.change(2, 2, 30);
        x.letter(2);
        Due.same("27: two marks at once", x.pass(0, 1), 60);
        FairRates y = bound();
        y.link(0, 90);
        Due.same("27: as much elsewhere is no mark", y.pass(0, -1), 2);
        Due.same("27: as much elsewhere", y.pass(0, 1), 40);
        Due.same("27: all marked", x.pass(0, 2), 1_000_000);
        Due.same("27: all marked, passes", x.pass(0, -1), 3);
        Due.same("27: none marked", Nets.three().pass(0, -1), 1);
        x.change(2, 1, 30);
        x.link(0, 70);
        Due.same("27: a least counts", x.pass(0, 0), 20);
    }

    private static void p28Known() {
        FairRates x = bound();
        Due.same("28: ahead", x.known(1, 2, 0), 45);
        Due.same("28: behind", x.known(1, 0, 1), 40);
        Due.same("28: behind at the last", x.known(1, 2, 1), 1_000_000);
        Due.same("28: marked", x.known(0, 0, 2), 1);
        Due.same("28: marked, too", x.known(1, 0, 2), 1);
        Due.same("28: not marked", x.known(2, 0, 2), 0);
        Due.same("28: not marked there", x.known(0, 1, 2), 0);
        x.link(0, 90);
        Due.same("28: as much elsewhere as it advertises", x.advertised(0), 40);
        Due.same("28: is no mark", x.known(1, 0, 2), 0);
        Due.none("28: not its link", x.known(0, 2, 0));
        Due.none("28: link -1", x.known(0, -1, 0));
        Due.none("28: link 10", x.known(0, 10, 0));
        Due.none("28: link 32", x.known(0, 32, 0));
        Due.none("28: what 3", x.known(0, 0, 3));
        Due.none("28: what -1", x.known(0, 0, -1));
        Due.none("28: no such flow", x.known(3, 0, 0));
        Due.none("28: flow -1", x.known(-1, 0, 0));
        Due.none("28: flow 20", x.known(20, 0, 0));
    }

    private static void p29Booked() {
        FairRates x = Nets.three();
        Due.same("29: at first", x.booked(0), 0);
        x.letter(0);
        x.letter(2);
        Due.same("29: link 0", x.booked(0), 20);
        Due.same("29: link 1, with weight", x.booked(1), 60);
        x.change(1, 1, 15);
        Due.same("29: least counts", x.booked(0), 35);
        x.change(2, 0, 9);
        Due.same("29: weight as it is now", x.booked(1), 200);
        Due.same("29: without flows", x.booked(7), 0);
        Due.none("29: -1", x.booked(-1));
        Due.none("29: 10", x.booked(10));
    }

    private static void p30Over() {
        FairRates x = Nets.three();
        Due.same("30: at first", x.over(), 0);
        x.rounds(9);
        Due.same("30: just full is not over", x.over(), 0);
        x.link(1, 59);
        Due.same("30: one too much", x.over(), 2);
        x.link(0, 99);
        Due.same("30: both", x.over(), 3);
        x.rounds(9);
        Due.same("30: settled", x.over(), 0);
        Due.same("30: no flows", new FairRates().over(), 0);
    }

    private static void p31Settling() {
        FairRates x = Nets.three();
        Due.same("31: three rounds", x.settling(0), 3);
        Due.same("31: none over", x.settling(1), 0);
        Due.same("31: fair then", x.settling(2), 1);
        Due.none("31: what 3", x.settling(3));
        Due.none("31: what -1", x.settling(-1));
        Due.same("31: on paper only, told", x.flow(0, 7), 0);
        Due.same("31: on paper only, letters", x.count(3), 0);
        Due.same("31: on paper only, rounds", x.count(4), 0);
        x.rounds(9);
        Due.same("31: settled", x.settling(0), 1);
        x.hold(0, true);
        x.hold(2, true);
        x.link(1, 30);
        Due.same("31: held ones do not move", x.settling(0), 1);
        Due.same("31: a link stays over", x.settling(1), 1);
        Due.same("31: not fair then", x.settling(2), 0);
        FairRates y = new FairRates();
        Due.same("31: no flows, quiet", y.settling(0), 1);
        Due.same("31: no flows, none over", y.settling(1), 0);
        Due.same("31: no flows, fair", y.settling(2), 1);
        FairRates z = Nets.restless();
        Due.same("31: never", z.settling(0), 61);
        Due.same("31: over in some of sixty", z.settling(1), 45);
        Due.same("31: not fair after sixty", z.settling(2), 0);
        FairRates w = Nets.three();
        w.rounds(9);
        w.forget();
        w.lose(0, 99);
        Due.same("31: what is lost is lost on paper, too", w.settling(2), 0);
        Due.same("31: quiet, as nothing is told", w.settling(0), 2);
        Due.same("31: used up on paper only", w.count(13), 99);
        Due.same("31: nothing lost", w.count(11), 0);
    }

    private static void p32Swings() {
        FairRates x = Nets.three();
        x.lose(0, 1);
        Due.same("32: one turn", x.swings(0, 3, 0), 1);
        Due.same("32: greatest", x.swings(0, 3, 1), 20);
        Due.same("32: least, as the first was lost", x.swings(0, 3, 2), 0);
        Due.same("32: only the first", x.swings(0, 1, 0), 0);
        Due.same("32: only the first, greatest", x.swings(0, 1, 1), 0);
        Due.same("32: the first of another one", x.swings(1, 1, 0), 1);
        Due.same("32: the first of another one, greatest", x.swings(1, 1, 1), 50);
        Due.same("32: the first of another one, least", x.swings(1, 1, 2), 50);
        Due.same("32: sixty", x.swings(1, 60, 0), 2);
        Due.same("32: sixty, greatest", x.swings(1, 60, 1), 80);
        Due.same("32: sixty, least", x.swings(1, 60, 2), 50);
        Due.same("32: used up on paper only", x.count(13), 1);
        Due.same("32: told on paper only", x.flow(1, 7), 0);
        Due.same("32: letters on paper only", x.count(3) + x.count(4) + x.count(11), 0);
        x.rounds(9);
        Due.same("32: least behind, not ahead", x.swings(0, 2, 2), 20);
        x.hold(0, true);
        x.link(0, 10);
        Due.same("32: a held one stays", x.swings(0, 9, 0), 0);
        Due.none("32: 0 rounds", x.swings(0, 0, 0));
        Due.none("32: 61 rounds", x.swings(0, 61, 0));
        Due.none("32: what 3", x.swings(0, 1, 3));
        Due.none("32: what -1", x.swings(0, 1, -1));
        Due.none("32: no such flow", x.swings(3, 1, 0));
        Due.none("32: flow -1", x.swings(-1, 1, 0));
        FairRates y = Nets.restless();
        FairRates z = Nets.restless();
        int turns = 0;
        for (int i = 0; i < 60; i++) {
            int before = z.flow(0, 7);
            z.rounds(1);
            turns += z.flow(0, 7) != before ? 1 : 0;
        }
        Due.same("32: as it goes, for sixty", y.swings(0, 60, 0), turns);
        FairRates w = Nets.three();
        w.rounds(9);
        w.link(1, 90);
        w.lose(0, 2);
        Due.same("32: goes on behind a quiet round", w.swings(0, 9, 0), 1);
    }

    private static void p33Peak() {
        FairRates x = Nets.three();
        x.lose(0, 1);
        Due.same("33: link 0, first round", x.peak(0, 1), 50);
        Due.same("33: link 0, on", x.peak(0, 60), 100);
        Due.same("33: link 1", x.peak(1, 2), 60);
        Due.same("33: on paper only", x.booked(1) + x.count(3) + x.count(4), 0);
        Due.same("33: used up on paper only", x.count(13), 1);
        Due.same("33: without flows", x.peak(8, 5), 0);
        Due.none("33: 0 rounds", x.peak(0, 0));
        Due.none("33: 61 rounds", x.peak(0, 61));
        Due.none("33: link -1", x.peak(-1, 1));
        Due.none("33: link 10", x.peak(10, 1));
        x.rounds(9);
        x.link(0, 40);
        Due.same("33: behind, not ahead", x.peak(0, 9), 40);
        FairRates y = Nets.restless();
        FairRates z = Nets.restless();
        int most = 0;
        for (int i = 0; i < 60; i++) {
            z.rounds(1);
            most = Math.max(most, z.booked(3));
        }
        Due.same("33: as it goes, for sixty", y.peak(3, 60), most);
    }

    private static void p34Off() {
        FairRates x = Nets.three();
        Due.same("34: at first", x.off(), 120);
        x.letter(1);
        Due.same("34: too little and too much", x.off(), 70);
        x.rounds(9);
        Due.same("34: settled", x.off(), 0);
        x.link(1, 90);
        Due.same("34: both ways", x.off(), 30);
        Due.same("34: no flows", new FairRates().off(), 0);
    }

    public static void main(String[] args) {
        p26Advertised();
        p27Pass();
        p28Known();
        p29Booked();
        p30Over();
        p31Settling();
        p32Swings();
        p33Peak();
        p34Off();
        Due.end();
    }
}

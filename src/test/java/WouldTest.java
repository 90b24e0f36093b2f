/** Promises 35 to 46: what would be, storms, and what is counted. */
public final class WouldTest {
    private static final int MAX = Integer.MAX_VALUE;
    private static final int MIN = Integer.MIN_VALUE;

    private WouldTest() {
    }

    private static void missing(String call, int got) {
        Due.same(call, got, MIN);
    }

    private static void p35Would() {
        FairRates x = Nets.three();
        Due.same("35: over link 0", x.would(1, 1, 0, 1000), 40);
        Due.same("35: over link 1, weight 3", x.would(2, 3, 0, 1000), 30);
        Due.same("35: a least", x.would(1, 1, 50, 50), 50);
        Due.same("35: a want", x.would(1, 2, 0, 15), 14);
        Due.same("35: an empty link", x.would(4, 1, 0, 15), 0);
        Due.none("35: no links", x.would(0, 1, 0, 5));
        Due.none("35: link 10", x.would(1024, 1, 0, 5));
        Due.none("35: weight 0", x.would(1, 0, 0, 5));
        Due.none("35: weight 10", x.would(1, 10, 0, 5));
        Due.none("35: least -1", x.would(1, 1, -1, 5));
        Due.none("35: want too great", x.would(1, 1, 0, 1_000_001));
        Due.none("35: want below least", x.would(1, 1, 6, 5));
        Due.none("35: bound", x.would(1, 1, 101, 101));
        Due.none("35: no room", Nets.full().would(1, 1, 0, 5));
        Due.same("35: nothing came", x.count(0), 3);
        Due.same("35: nothing is refused", x.count(6) + x.count(9) + x.count(10), 0);
        Due.same("35: fair as it was", x.fair(1, 0), 80);
    }

    private static void p36Better() {
        FairRates x = Nets.three();
        Due.same("36: over link 0 alone", x.better(0, 1), 50);
        Due.same("36: its own links", x.better(0, 3), 20);
        Due.same("36: an empty link", x.better(0, 5), 0);
        Due.same("36: another's", x.better(1, 2), 15);
        Due.none("36: no links", x.better(0, 0));
        Due.none("36: link 10", x.better(0, 1024));
        Due.none("36: no such flow", x.better(3, 1));
        Due.none("36: flow -1", x.better(-1, 1));
        x.change(0, 1, 5);
        Due.none("36: bound", x.better(0, 4));
        Due.same("36: nothing is routed", x.flow(0, 1), 3);
        Due.same("36: nothing is refused", x.count(6) + x.count(7) + x.count(8) + x.count(10), 0);
    }

    private static void p37Spares() {
        FairRates x = Nets.three();
        Due.same("37: less", x.spares(0, 10), 20);
        Due.same("37: nothing for others", x.spares(1, 0), 0);
        Due.same("37: what one wins another loses", x.spares(2, 0), 0);
        Due.same("37: as it is", x.spares(0, 1000), 0);
        Due.same("37: as great as can be", x.spares(0, 1_000_000), 0);
        missing("37: no such flow", x.spares(3, 10));
        missing("37: flow -1", x.spares(-1, 10));
        missing("37: want -1", x.spares(0, -1));
        missing("37: want too great", x.spares(0, 1_000_001));
        x.change(0, 2, 5);
        Due.same("37: more", x.spares(0, 1000), -29);
        x.change(0, 1, 4);
        missing("37: below least", x.spares(0, 3));
        Due.same("37: just least", x.spares(0, 4), 3);
        Due.same("37: nothing changed", x.flow(0, 4), 5);
    }

    private static void p38WeightFor() {
        FairRates x = Nets.three();
        Due.same("38: 30", x.weightFor(0, 30), 2);
        Due.same("38: what it has", x.weightFor(0, 20), 1);
        Due.same("38: one more", x.weightFor(0, 21), 2);
        Due.same("38: 46, where 9 would give less than 8", x.weightFor(0, 46), 8);
        Due.same("38: 48", x.weightFor(0, 48), 8);
        Due.none("38: 49", x.weightFor(0, 49));
        x.link(1, 110);
        Due.same("38: only by 9", x.weightFor(2, 97), 9);
        x.link(1, 60);
        Due.same("38: the least, not its own", x.weightFor(2, 30), 1);
        Due.same("38: 0", x.weightFor(0, 0), 1);
        Due.same("38: below 0", x.weightFor(0, MIN), 1);
        Due.none("38: MAX", x.weightFor(0, MAX));
        Due.none("38: no such flow", x.weightFor(3, 0));
        Due.none("38: flow -1", x.weightFor(-1, 0));
        Due.same("38: nothing changed", x.flow(0, 2), 1);
    }

    private static void p39RoomFor() {
        FairRates x = Nets.three();
        Due.same("39: both links", x.roomFor(3), 60);
        Due.same("39: link 0", x.roomFor(1), 100);
        Due.same("39: an empty link", x.roomFor(4), 0);
        Due.none("39: no links", x.roomFor(0));
        Due.none("39: link 10", x.roomFor(1025));
        Due.none("39: below 0", x.roomFor(-1));
        x.change(0, 1, 25);
        x.change(2, 1, 5);
        Due.same("39: beside bounds", x.roomFor(3), 30);
        Due.same("39: that can come", x.come(1, 3, 1, 30, 30), 3);
        Due.same("39: nothing left", x.roomFor(3), 0);
        x.link(9, 1_000_000);
        Due.same("39: as much as can be", x.roomFor(512), 1_000_000);
        Due.none("39: no room", Nets.full().roomFor(1));
    }

    private static void p40Touched() {
        FairRates x = Nets.three();
        Due.same("40: link 0", x.touched(0), 2);
        Due.same("40: link 1", x.touched(1), 7);
        x.link(1, 62);
        Due.same("40: a link with some left", x.touched(1), 0);
        x.link(1, 61);
        Due.same("40: a link with 1 left", x.touched(1), 0);
        Due.none("40: an empty link", x.touched(2));
        x.link(2, 1);
        Due.same("40: no flows", x.touched(2), 0);
        x.link(3, 5);
        x.come(1, 8, 1, 5, 50);
        Due.none("40: bound", x.touched(3));
        x.link(3, 6);
        Due.same("40: one above bound", x.touched(3), 8);
        Due.none("40: -1", x.touched(-1));
        Due.none("40: 10", x.touched(10));
        Due.same("40: nothing changed", x.links(3, 0), 6);
    }

    private static void p41Without() {
        FairRates x = Nets.three();
        Due.same("41: 0 for 1", x.without(0, 1), 20);
        Due.same("41: 0 for 2, by weight", x.without(0, 2), 20);
        Due.same("41: 1 for 0", x.without(1, 0), 0);
        Due.same("41: 2 for 0", x.without(2, 0), 30);
        Due.same("41: 2 for 1", x.without(2, 1), -30);
        missing("41: alike", x.without(0, 0));
        missing("41: no such other", x.without(0, 3));
        missing("41: no such flow", x.without(3, 0));
        missing("41: -1", x.without(-1, 0));
        missing("41: 20", x.without(0, 20));
        Due.same("41: nobody went", x.count(0), 3);
    }

    private static void p42Wider() {
        FairRates x = Nets.three();
        Due.same("42: least level", x.wider(1, 30, 0), 10);
        Due.same("42: all rates", x.wider(1, 30, 1), 20);
        Due.same("42: nothing more", x.wider(1, 0, 0), 0);
        Due.same("42: another link, least level", x.wider(0, 1000, 0), 0);
        Due.same("42: another link, all rates", x.wider(0, 1000, 1), 920);
        Due.same("42: as much as can be, least level", x.wider(1, MAX, 0), 30);
        Due.same("42: as much as can be, all rates", x.wider(1, MAX, 1), 960);
        Due.same("42: without flows there", x.wider(5, 10, 1), 0);
        missing("42: link -1", x.wider(-1, 1, 0));
        missing("42: link 10", x.wider(10, 1, 0));
        missing("42: more -1", x.wider(1, -1, 0));
        missing("42: what 2", x.wider(1, 1, 2));
        missing("42: what -1", x.wider(1, 1, -1));
        missing("42: no flows", new FairRates().wider(1, 1, 0));
        FairRates y = new FairRates();
        y.link(0, 999_990);
        y.come(1, 1, 1, 0, 1_000_000);
        Due.same("42: no more than 1,000,000", y.wider(0, 500, 0), 10);
        y.come(2, 1, 1, 0, 1_000_000);
        Due.same("42: no more than 1,000,000 for both", y.wider(0, 500, 0), 5);
        FairRates z = new FairRates();
        z.link(0, 10);
        z.link(1, 10);
        z.link(2, 40);
        z.come(1, 7, 1, 0, 100);
        z.come(2, 1, 1, 0, 100);
        z.come(3, 2, 1, 0, 100);
        z.come(4, 4, 1, 0, 100);
        Due.same("42: by one link alone, least level", z.wider(0, 10, 0), 0);
        z.link(1, 14);
        Due.same("42: two win, two lose", z.wider(0, 10, 1), 2 + 8 - 2 - 2);
        z.go(1);
        z.link(0, 5);
        Due.same("42: one wins, two lose", z.wider(0, 10, 1), 2 - 2 - 2);
    }

    private static void p43Tight() {
        FairRates x = Nets.three();
        Due.same("43: link 1", x.tight(), 1);
        x.link(1, 300);
        Due.same("43: link 0", x.tight(), 0);
        x.change(2, 2, 0);
        Due.none("43: one wants nothing", x.tight());
        Due.none("43: no flows", new FairRates().tight());
        FairRates y = new FairRates();
        y.link(5, 999_950);
        y.come(1, 32, 1, 0, 1_000_000);
        Due.same("43: up to 1,000,000", y.tight(), 5);
        y.link(5, 1_000_000);
        Due.none("43: no more", y.tight());
        FairRates z = new FairRates();
        z.link(0, 10);
        z.link(1, 10);
        z.come(1, 3, 1, 0, 1000);
        Due.none("43: two as tight", z.tight());
        z.link(1, 9);
        Due.same("43: the tighter one", z.tight(), 1);
        FairRates w = new FairRates();
        w.link(6, 0);
        w.come(1, 64, 9, 0, 1000);
        w.come(2, 64, 9, 0, 1000);
        w.come(3, 64, 9, 0, 1000);
        Due.same("43: 100 more", w.tight(), 6);
        for (int n = 4; n < 15; n++) {
            w.come(n, 64, 9, 0, 1000);
        }
        Due.none("43: 100 are too few", w.tight());
        Due.same("43: nothing changed", w.links(6, 0), 0);
        FairRates v = new FairRates();
        v.link(0, 0);
        for (int n = 0; n < 11; n++) {
            v.come(n, 1, 9, 0, 1000);
        }
        v.come(11, 1, 1, 0, 1000);
        Due.same("43: just 100 more", v.tight(), 0);
        v.change(11, 0, 2);
        Due.none("43: 101 would be", v.tight());
        v.link(0, 1);
        Due.same("43: now 100 are", v.tight(), 0);
        v.change(11, 0, 3);
        Due.none("43: now 102 would be", v.tight());
    }

    private static void p44Enough() {
        FairRates x = Nets.three();
        Due.same("44: link 0", x.enough(0), 100);
        x.link(1, 62);
        Due.same("44: link 1, with some left", x.enough(1), 60);
        x.link(2, 500);
        Due.same("44: without flows", x.enough(2), 0);
        x.come(1, 4, 2, 0, 7);
        Due.same("44: by its own level", x.enough(2), 6);
        x.change(3, 1, 7);
        Due.same("44: from bound on", x.enough(2), 7);
        Due.none("44: -1", x.enough(-1));
        Due.none("44: 10", x.enough(10));
        FairRates y = new FairRates();
        y.link(0, 11);
        y.come(1, 1, 1, 0, 100);
        y.come(2, 1, 1, 0, 5);
        Due.same("44: 11", y.enough(0), 10);
        y.link(0, 12);
        Due.same("44: 12", y.enough(0), 12);
        y.link(0, 1_000_000);
        Due.same("44: both have what they want", y.enough(0), 105);
        Due.same("44: nothing changed", y.links(0, 0), 1_000_000);
        Due.same("44: no flows at all", new FairRates().enough(0), 0);
    }

    private static void p45Storm() {
        FairRates x = new FairRates();
        Due.same("45: none goes where none is, quiet", x.storm(0, 1, 0), 1);
        Due.same("45: none goes where none is, flows", x.storm(0, 1, 2), 0);
        Due.same("45: one comes over empty links", x.storm(1, 1, 2), 1);
        Due.same("45: without a least", x.storm(1, 1, 1), 0);
        x.link(2, 40);
        x.link(9, 50);
        Due.same("45: one comes, not quiet", x.storm(1, 1, 0), 0);
        Due.same("45: one comes, not over", x.storm(1, 1, 1), 0);
        Due.same("45: one comes", x.storm(1, 1, 2), 1);
        Due.same("45: on paper only", x.count(0) + x.count(3) + x.count(4), 0);
        x.come(845_447, 1, 1, 0, 10);
        Due.same("45: its name is taken", x.storm(1, 1, 2), 1);
        Due.same("45: name 1 by a draw of 1,000,001", x.storm(638_961, 1, 2), 2);
        x.come(1, 1, 1, 0, 10);
        Due.same("45: that is taken, too", x.storm(638_961, 1, 2), 2);
        Due.same("45: no room", Nets.full().storm(1, 1, 2), 20);
        FairRates y = Nets.three();
        Due.same("45: one goes", y.storm(0, 1, 2), 2);
        y.rounds(9);
        y.hold(0, true);
        y.hold(1, true);
        y.hold(2, true);
        y.link(1, 30);
        Due.same("45: the third one goes", y.storm(0, 1, 1), 0);
        Due.same("45: the others are held", y.storm(0, 1, 0), 1);
        Due.same("45: a draw of 2 is nothing", y.storm(3, 1, 2), 3);
        Due.same("45: but over", y.storm(3, 1, 1), 1);
        Due.none("45: seed -1", y.storm(-1, 1, 0));
        Due.none("45: seed 1,000,000", y.storm(1_000_000, 1, 0));
        Due.none("45: n 0", y.storm(1, 0, 0));
        Due.none("45: n 41", y.storm(1, 41, 0));
        Due.none("45: what 3", y.storm(1, 1, 3));
        Due.none("45: what -1", y.storm(1, 1, -1));
        longStorms();
    }

    /** Longer ones as Plain, which goes by the document's words alone, has them. */
    private static void longStorms() {
        for (int seed = 999_999; seed > 0; seed = seed / 3) {
            FairRates x = new FairRates();
            Plain due = new Plain();
            for (int l = 0; l < 10; l++) {
                x.link(l, 500 + 37 * l);
                due.link(l, 500 + 37 * l);
            }
            x.lose(1, 20);
            due.lose(1, 20);
            for (int what = 0; what < 3; what++) {
                Due.same("45: storm(" + seed + ", 40, " + what + ")", x.storm(seed, 40, what), due.storm(seed, 40, what));
            }
            Due.same("45: used up on paper only", x.count(13), 20);
        }
    }

    private static void counts(String where, FairRates x, int... due) {
        for (int what = 0; what < due.length; what++) {
            Due.same("46: " + where + ", count(" + what + ")", x.count(what), due[what]);
        }
    }

    private static void p46Count() {
        FairRates x = Nets.three();
        counts("at first", x, 3, 0, 2, 0, 0, 0, 0, 0, 0, 0, 0, 0, 0, 0);
        x.rounds(2);
        x.hold(1, true);
        x.lose(0, 7);
        x.lose(9, 3);
        x.letter(1);
        x.hop(2);
        x.hop(2);
        x.hop(2);
        counts("then", x, 3, 1, 2, 9, 2, 1, 0, 0, 0, 0, 0, 1, 1, 9);
        x.rounds(0);
        x.link(0, -1);
        x.lose(10, 0);
        x.route(0, 0);
        x.change(0, 0, 0);
        x.come(-1, 1, 1, 0, 0);
        x.go(19);
        x.hop(19);
        x.letter(19);
        x.link(0, 100);
        x.hold(1, true);
        x.come(1, 1, 1, 500, 500);
        for (int n = 0; n < 17; n++) {
            x.come(100 + n, 4, 1, 0, 0);
        }
        x.come(500, 4, 1, 0, 0);
        counts("refused", x, 20, 1, 3, 9, 2, 1, 6, 3, 2, 1, 1, 1, 1, 9);
        Due.none("46: -1", x.count(-1));
        Due.none("46: 14", x.count(14));
        Due.none("46: MAX", x.count(MAX));
        Due.same("46: questions are never refused", questions(), 0);
    }

    private static int questions() {
        FairRates x = new FairRates();
        x.links(-1, 0);
        x.named(-1);
        x.used(-1, 0);
        x.water(-1);
        x.step(-1, 0);
        x.ranked(-1);
        x.fullest(-1);
        x.even(-1);
        x.advertised(-1);
        x.pass(-1, 0);
        x.known(-1, 0, 0);
        x.booked(-1);
        x.settling(-1);
        x.swings(-1, 0, 0);
        x.peak(-1, 0);
        x.would(-1, 0, 0, 0);
        x.better(-1, 0);
        x.spares(-1, 0);
        x.weightFor(-1, 0);
        x.roomFor(-1);
        x.touched(-1);
        x.without(-1, 0);
        x.wider(-1, 0, 0);
        x.tight();
        x.enough(-1);
        x.storm(-1, 0, 0);
        x.keep(-1);
        x.again(-1);
        return x.count(6) + x.count(7) + x.count(8) + x.count(9) + x.count(10);
    }

    public static void main(String[] args) {
        p35Would();
        p36Better();
        p37Spares();
        p38WeightFor();
        p39RoomFor();
        p40Touched();
        p41Without();
        p42Wider();
        p43Tight();
        p44Enough();
        p45Storm();
        p46Count();
        Due.end();
    }
}

/** Promises 1 to 14: what changes the state. */
public final class ChangesTest {
    private static final int MAX = Integer.MAX_VALUE;
    private static final int MIN = Integer.MIN_VALUE;

    private ChangesTest() {
    }

    private static void refusals(String where, FairRates x, int... due) {
        for (int why = 0; why < due.length; why++) {
            Due.same(where + ": refused by " + why, x.count(6 + why), due[why]);
        }
    }

    private static void p01NewObject() {
        FairRates x = new FairRates();
        for (int l = 0; l < 10; l++) {
            Due.same("1: capacity of " + l, x.links(l, 0), 0);
            Due.same("1: flows of " + l, x.links(l, 2), 0);
            Due.same("1: bound of " + l, x.links(l, 1), 0);
        }
        for (int what = 0; what <= 13; what++) {
            Due.same("1: count(" + what + ")", x.count(what), 0);
        }
        for (int f = 0; f < 20; f++) {
            int flow = f;
            Due.noSuch("1: flow(" + f + ", 0)", () -> x.flow(flow, 0));
        }
        Due.same("1: NONE", FairRates.NONE, -1);
        Due.no("1: nothing kept", x.again(0));
        Due.same("1: two objects share nothing", new FairRates().count(6), 0);
    }

    private static void p02Link() {
        FairRates x = new FairRates();
        Due.same("2: first", x.link(9, 1_000_000), 0);
        Due.same("2: what it was", x.link(9, 0), 1_000_000);
        Due.same("2: down to 0", x.links(9, 0), 0);
        Due.none("2: link -1", x.link(-1, 5));
        Due.none("2: link 10", x.link(10, 5));
        Due.none("2: capacity -1", x.link(0, -1));
        Due.none("2: capacity too great", x.link(0, 1_000_001));
        Due.none("2: capacity MIN", x.link(MIN, MIN));
        Due.none("2: capacity MAX", x.link(MAX, MAX));
        refusals("2", x, 6, 0, 0, 0, 0);
        Due.none("2: so already", x.link(9, 0));
        refusals("2", x, 6, 0, 1, 0, 0);
        x.link(3, 50);
        x.come(1, 8, 1, 30, 40);
        x.come(2, 8, 1, 10, 40);
        Due.none("2: below bound", x.link(3, 39));
        refusals("2", x, 6, 0, 1, 0, 1);
        Due.same("2: nothing changed", x.links(3, 0), 50);
        Due.same("2: down to bound", x.link(3, 40), 50);
        Due.none("2: so already, before bound", x.link(3, 40));
        refusals("2", x, 6, 0, 2, 0, 1);
    }

    private static void p03Come() {
        FairRates x = new FairRates();
        x.link(0, 100);
        Due.same("3: first", x.come(0, 1, 1, 0, 0), 0);
        Due.same("3: name 999,999, all links", x.come(999_999, 1023, 9, 0, 1_000_000), 1);
        Due.none("3: name -1", x.come(-1, 1, 1, 0, 0));
        Due.none("3: name 1,000,000", x.come(1_000_000, 1, 1, 0, 0));
        Due.none("3: no links", x.come(5, 0, 1, 0, 0));
        Due.none("3: link 10", x.come(5, 1024, 1, 0, 0));
        Due.none("3: link 10 and 0", x.come(5, 1025, 1, 0, 0));
        Due.none("3: links -1", x.come(5, -1, 1, 0, 0));
        Due.none("3: links MIN + 1", x.come(5, MIN + 1, 1, 0, 0));
        Due.none("3: weight 0", x.come(5, 1, 0, 0, 0));
        Due.none("3: weight 10", x.come(5, 1, 10, 0, 0));
        Due.none("3: least -1", x.come(5, 1, 1, -1, 0));
        Due.none("3: least too great", x.come(5, 1, 1, 1_000_001, 1_000_001));
        Due.none("3: want too great", x.come(5, 1, 1, 0, 1_000_001));
        Due.none("3: want -1", x.come(5, 1, 1, 0, -1));
        Due.none("3: want below least", x.come(5, 1, 1, 10, 9));
        refusals("3", x, 14, 0, 0, 0, 0);
        Due.none("3: name taken, numbers first", x.come(0, 1, 1, 10, 9));
        refusals("3", x, 15, 0, 0, 0, 0);
        Due.none("3: name taken", x.come(0, 1, 1, 0, 0));
        Due.none("3: name taken, before bound", x.come(0, 1, 1, 101, 101));
        refusals("3", x, 15, 0, 2, 0, 0);
        Due.none("3: bound above", x.come(5, 1, 1, 101, 101));
        Due.none("3: bound above at another link", x.come(5, 3, 1, 1, 1));
        refusals("3", x, 15, 0, 2, 0, 2);
        Due.same("3: bound just so", x.come(5, 1, 1, 100, 100), 2);
        Due.same("3: bound", x.links(0, 1), 100);
        Due.none("3: not one more", x.come(6, 1, 1, 1, 1));
        Due.same("3: flows", x.count(0), 3);
        for (int n = 3; n < 20; n++) {
            Due.same("3: number " + n, x.come(100 + n, 1, 1, 0, 5), n);
        }
        Due.none("3: no room, before bound", x.come(6, 1, 1, 1, 1));
        refusals("3", x, 15, 0, 2, 1, 3);
        Due.none("3: name taken, before room", x.come(103, 1, 1, 0, 5));
        refusals("3", x, 15, 0, 3, 1, 3);
        x.go(11);
        x.go(4);
        Due.same("3: the least number first", x.come(6, 1, 1, 0, 5), 4);
        Due.same("3: then the next", x.come(61, 1, 1, 0, 5), 11);
    }

    private static void p04Go() {
        FairRates x = Nets.three();
        x.hold(1, true);
        x.hop(1);
        x.rounds(5);
        Due.same("4: left", x.go(1), 2);
        Due.none("4: name is free", x.named(8));
        Due.same("4: not held any more", x.count(1), 0);
        Due.same("4: not under way any more", x.count(12), 0);
        Due.same("4: the link knows it no more", x.links(0, 2), 1);
        Due.none("4: known", x.known(1, 0, 0));
        Due.none("4: again", x.go(1));
        Due.none("4: -1", x.go(-1));
        Due.none("4: 20", x.go(20));
        Due.none("4: 32, which a shift takes for 0", x.go(32));
        refusals("4", x, 0, 4, 0, 0, 0);
        Due.same("4: number is given again", x.come(8, 1, 1, 0, 1000), 1);
        Due.same("4: told begins anew", x.flow(1, 7), 0);
        Due.same("4: ahead begins anew", x.known(1, 0, 0), 1_000_000);
        Due.same("4: behind begins anew", x.known(1, 0, 1), 1_000_000);
        Due.same("4: held begins anew", x.flow(1, 6), 0);
        Due.same("4: its letter begins anew", x.hop(1), 0);
        FairRates y = Nets.three();
        y.rounds(5);
        y.go(0);
        Due.same("4: come after go", y.come(7, 3, 1, 0, 1000), 0);
        Due.same("4: told of that which was told", y.flow(0, 7), 0);
        Due.same("4: behind of that which was told", y.known(0, 0, 1), 1_000_000);
        Due.same("4: advertised without what was known", y.advertised(0), 50);
        Due.same("4: to none", y.go(0) + 10 * y.go(1) + 100 * y.go(2), 12);
    }

    private static void p05Change() {
        FairRates x = Nets.three();
        Due.same("5: weight", x.change(0, 0, 9), 1);
        Due.same("5: weight is", x.flow(0, 2), 9);
        Due.same("5: own goes by it", x.flow(0, 5), 111);
        Due.same("5: least", x.change(0, 1, 60), 0);
        Due.same("5: least is", x.flow(0, 3), 60);
        Due.same("5: want", x.change(0, 2, 60), 1000);
        Due.same("5: want is", x.flow(0, 4), 60);
        Due.none("5: weight 0", x.change(0, 0, 0));
        Due.none("5: weight 10", x.change(0, 0, 10));
        Due.none("5: least -1", x.change(0, 1, -1));
        Due.none("5: least too great", x.change(0, 1, 1_000_001));
        Due.none("5: want -1", x.change(0, 2, -1));
        Due.none("5: want too great", x.change(0, 2, 1_000_001));
        Due.none("5: what -1", x.change(0, -1, 1));
        Due.none("5: what 3", x.change(0, 3, 1));
        Due.none("5: v before flow", x.change(5, 0, 10));
        refusals("5", x, 9, 0, 0, 0, 0);
        Due.none("5: no such flow", x.change(3, 0, 2));
        Due.none("5: flow -1", x.change(-1, 0, 2));
        Due.none("5: flow 20", x.change(20, 1, 0));
        refusals("5", x, 9, 3, 0, 0, 0);
        Due.none("5: want below least", x.change(0, 2, 59));
        Due.none("5: least above want", x.change(0, 1, 61));
        refusals("5", x, 11, 3, 0, 0, 0);
        Due.none("5: weight so already", x.change(0, 0, 9));
        Due.none("5: least so already", x.change(0, 1, 60));
        Due.none("5: want so already", x.change(0, 2, 60));
        refusals("5", x, 11, 3, 3, 0, 0);
        Due.none("5: other least needs room", x.change(2, 1, 1));
        refusals("5", x, 11, 3, 3, 0, 1);
        Due.same("5: least down", x.change(0, 1, 10), 60);
        Due.same("5: least where there is room", x.change(2, 1, 50), 0);
        Due.none("5: bound, not a bit more", x.change(2, 1, 51));
        refusals("5", x, 11, 3, 3, 0, 2);
        Due.same("5: bound", x.links(1, 1), 60);
        x.change(0, 2, 1000);
        Due.none("5: least of both links, one is full", x.change(0, 1, 11));
        Due.same("5: advertised goes by the weight at once", weighed(), 10);
    }

    private static int weighed() {
        FairRates x = new FairRates();
        x.link(0, 40);
        x.come(1, 1, 1, 0, 40);
        Due.same("5: advertised before", x.advertised(0), 40);
        x.change(0, 0, 4);
        return x.advertised(0);
    }

    private static void p06Hold() {
        FairRates x = Nets.three();
        Due.same("6: one", x.hold(1, true), 1);
        Due.same("6: two", x.hold(2, true), 2);
        Due.same("6: is held", x.flow(2, 6), 1);
        Due.none("6: so already", x.hold(2, true));
        Due.none("6: so already not", x.hold(0, false));
        Due.none("6: no such flow", x.hold(3, true));
        Due.none("6: no such flow, -1", x.hold(-1, true));
        Due.none("6: no such flow, 33", x.hold(33, false));
        refusals("6", x, 0, 3, 2, 0, 0);
        x.rounds(3);
        Due.same("6: held ones send no letter", x.flow(1, 7) + x.flow(2, 7), 0);
        Due.same("6: another one does", x.flow(0, 7), 20);
        Due.same("6: no more", x.hold(1, false), 1);
        Due.same("6: is not held", x.flow(1, 6), 0);
        x.rounds(1);
        Due.same("6: then it does", x.flow(1, 7), 80);
        Due.same("6: the held one still does not", x.flow(2, 7), 0);
    }

    private static void p07Route() {
        FairRates x = Nets.three();
        x.link(2, 1000);
        x.link(9, 5);
        x.rounds(9);
        Due.same("7: two new", x.route(0, 2 + 4 + 512), 2);
        Due.same("7: links", x.flow(0, 1), 518);
        Due.same("7: others stay, ahead", x.known(0, 1, 0), 80);
        Due.same("7: told stays", x.flow(0, 7), 20);
        Due.same("7: new one, ahead", x.known(0, 2, 0), 1_000_000);
        Due.same("7: new one, behind", x.known(0, 9, 1), 1_000_000);
        Due.none("7: old one", x.known(0, 0, 0));
        Due.same("7: old one's flows", x.links(0, 2), 2);
        Due.same("7: new one's flows", x.links(9, 2), 1);
        Due.same("7: none new", x.route(0, 2), 0);
        Due.same("7: back to the old one", x.route(0, 3), 1);
        Due.same("7: which knows nothing, ahead", x.known(0, 0, 0), 1_000_000);
        Due.same("7: which knows nothing, behind", x.known(0, 0, 1), 1_000_000);
        Due.none("7: no links", x.route(0, 0));
        Due.none("7: link 10", x.route(0, 1024));
        Due.none("7: links below 0", x.route(0, -5));
        Due.none("7: numbers before flow", x.route(9, 0));
        refusals("7", x, 4, 0, 0, 0, 0);
        Due.none("7: no such flow", x.route(9, 1));
        Due.none("7: so already", x.route(0, 3));
        refusals("7", x, 4, 1, 1, 0, 0);
        x.change(1, 1, 6);
        Due.none("7: bound", x.route(1, 1 + 512));
        refusals("7", x, 4, 1, 1, 0, 1);
        Due.same("7: refused changes nothing", x.flow(1, 1), 1);
        x.change(1, 1, 5);
        Due.same("7: just so", x.route(1, 1 + 512), 1);
        x.hop(1);
        Due.same("7: under way", x.count(12), 1);
        x.route(1, 1);
        Due.same("7: not under way any more", x.count(12), 0);
        Due.same("7: nor lost", x.count(11), 0);
        Due.same("7: another begins", x.hop(1), 0);
    }

    private static void p08Lose() {
        FairRates x = Nets.three();
        Due.same("8: none were", x.lose(1, 2), 0);
        Due.same("8: two were", x.lose(1, 99), 2);
        Due.same("8: the same number is fine", x.lose(1, 99), 99);
        Due.same("8: none", x.lose(1, 0), 99);
        Due.none("8: link -1", x.lose(-1, 1));
        Due.none("8: link 10", x.lose(10, 1));
        Due.none("8: -1", x.lose(0, -1));
        Due.none("8: 100", x.lose(0, 100));
        refusals("8", x, 4, 0, 0, 0, 0);
        x.lose(1, 1);
        Due.same("8: lost at 1, told stays", x.letter(0), 0);
        Due.same("8: ahead is told before", x.known(0, 0, 0), 1000);
        Due.same("8: ahead is told there still", x.known(0, 1, 0), 50);
        Due.same("8: behind stays", x.known(0, 0, 1), 1_000_000);
        Due.same("8: lost so far", x.count(11), 1);
        Due.same("8: counts down", x.count(13), 0);
        Due.same("8: the next one comes through", x.letter(0), 20);
        x.lose(0, 1);
        x.lose(1, 3);
        Due.same("8: all to be lost", x.count(13), 4);
        Due.same("8: lost at 0 first", x.letter(0), 20);
        Due.same("8: only there", x.lose(0, 0) * 10 + x.lose(1, 3), 3);
        x.hop(2);
        Due.same("8: under way, too", x.count(13), 2);
        x.rounds(1);
        Due.same("8: in rounds, too", x.count(13), 0);
        Due.same("8: a single link's letter lost tells nothing", x.flow(2, 7), 0);
    }

    private static void p09Hop() {
        FairRates x = new FairRates();
        x.link(1, 50);
        x.link(4, 30);
        x.link(8, 16);
        x.come(1, 2 + 16 + 256, 2, 0, 101);
        x.come(2, 16, 1, 0, 100);
        Due.same("9: first link", x.hop(0), 1);
        Due.same("9: bears own", x.known(0, 1, 0), 50);
        Due.same("9: counts when it begins", x.count(3), 1);
        x.change(0, 2, 10);
        Due.same("9: next link", x.hop(0), 4);
        Due.same("9: with what came with it", x.known(0, 4, 0), 25);
        Due.same("9: not told yet", x.flow(0, 7), 0);
        Due.same("9: the other one's, single link", x.hop(1), 4);
        Due.same("9: told at once", x.flow(1, 7), 10);
        Due.same("9: two under way", x.count(12), 2);
        Due.same("9: last link", x.hop(0), 8);
        Due.same("9: ahead there", x.known(0, 8, 0), 10);
        Due.same("9: told behind the last", x.flow(0, 7), 8);
        Due.same("9: behind stays till it comes back", x.known(0, 4, 1), 1_000_000);
        Due.same("9: single link back", x.hop(1), 24);
        Due.same("9: one under way", x.count(12), 1);
        Due.same("9: back at the last", x.hop(0), 28);
        Due.same("9: back at the middle", x.hop(0), 24);
        Due.same("9: behind there", x.known(0, 4, 1), 8);
        Due.same("9: back at the first", x.hop(0), 21);
        Due.same("9: behind at the first", x.known(0, 1, 1), 8);
        Due.same("9: none under way", x.count(12), 0);
        Due.same("9: letters", x.count(3), 2);
        Due.same("9: a new one bears the new own", x.hop(0) * 100 + x.known(0, 1, 0), 105);
        Due.same("9: letters, one more", x.count(3), 3);
        x.lose(4, 1);
        Due.same("9: lost", x.hop(0), 54);
        Due.same("9: ahead is told there still", x.known(0, 4, 0), 5);
        Due.same("9: told stays", x.flow(0, 7), 8);
        Due.same("9: lost so far", x.count(11), 1);
        Due.same("9: not under way", x.count(12), 0);
        x.hold(0, true);
        Due.same("9: held up or not", x.hop(0), 1);
        Due.none("9: no such flow", x.hop(2));
        Due.none("9: -1", x.hop(-1));
        Due.none("9: 20", x.hop(20));
        refusals("9", x, 0, 3, 0, 0, 0);
        x.lose(8, 1);
        Due.same("9: not lost at 4", x.hop(0), 4);
        Due.same("9: lost at the last", x.hop(0), 58);
        Due.same("9: told stays there, too", x.flow(0, 7), 8);
        x.hop(0);
        x.hop(0);
        x.hop(0);
        x.lose(8, 9);
        Due.same("9: on the way back nothing is lost", x.hop(0), 28);
        Due.same("9: nor counted down", x.count(13), 9);
        hopOverTheFirstTwo();
    }

    private static void hopOverTheFirstTwo() {
        FairRates x = Nets.three();
        Due.same("9: link 0", x.hop(0), 0);
        Due.same("9: link 1", x.hop(0), 1);
        Due.same("9: back at 1", x.hop(0), 21);
        Due.same("9: bears 1,000,000 there", x.known(0, 1, 1), 1_000_000);
        Due.same("9: still under way", x.count(12), 1);
        Due.same("9: back at 0", x.hop(0), 20);
        Due.same("9: with what 1 advertised", x.known(0, 0, 1), 20);
        Due.same("9: at rest", x.count(12), 0);
        Due.same("9: as a whole letter", x.booked(0) + x.booked(1), 40);
        x.hop(0);
        x.link(0, 30);
        Due.same("9: bears what link 0 advertised then", x.hop(0) + x.known(0, 1, 0), 81);
        Due.same("9: what changes meanwhile counts where it comes to", x.hop(0) * 100 + x.hop(0), 2120);
        x.hop(0);
        x.hop(1);
        x.change(0, 0, 3);
        x.forget();
        Due.same("9: forgotten", x.count(12), 0);
        Due.same("9: begins anew", x.hop(0), 0);
        Due.same("9: with own as it is", x.known(0, 0, 0), 333);
    }

    private static void p10Letter() {
        FairRates x = Nets.three();
        Due.same("10: told", x.letter(0), 20);
        Due.same("10: ahead 0", x.known(0, 0, 0), 1000);
        Due.same("10: ahead 1", x.known(0, 1, 0), 50);
        Due.same("10: behind 1", x.known(0, 1, 1), 1_000_000);
        Due.same("10: behind 0", x.known(0, 0, 1), 20);
        x.hold(1, true);
        Due.same("10: held up or not", x.letter(1), 80);
        x.hop(2);
        Due.same("10: not the one under way", x.letter(2), 20);
        Due.same("10: that is still", x.count(12), 1);
        Due.same("10: and goes on back", x.hop(2), 21);
        Due.same("10: letters", x.count(3), 4);
        Due.same("10: own bounds it", wanting(7), 3);
        Due.none("10: no such flow", x.letter(3));
        Due.none("10: -1", x.letter(-1));
        Due.none("10: MAX", x.letter(MAX));
        refusals("10", x, 0, 3, 0, 0, 0);
        Due.same("10: refused letters are none", x.count(3), 4);
    }

    private static int wanting(int want) {
        FairRates x = new FairRates();
        x.link(5, 100);
        x.come(1, 32, 2, 0, want);
        return x.letter(0);
    }

    private static void p11Rounds() {
        FairRates x = Nets.three();
        Due.same("11: till a quiet one", x.rounds(30), 3);
        Due.same("11: told", x.flow(0, 7) * 10_000 + x.flow(1, 7) * 100 + x.flow(2, 7), 208_020);
        Due.same("11: rounds", x.count(4), 3);
        Due.same("11: letters", x.count(3), 9);
        Due.same("11: the quiet one again", x.rounds(1), 1);
        x.link(1, 90);
        Due.same("11: no more than n", x.rounds(1), 1);
        Due.same("11: behind one", x.flow(0, 7), 30);
        Due.none("11: 0", x.rounds(0));
        Due.none("11: 31", x.rounds(31));
        Due.none("11: -1", x.rounds(-1));
        Due.none("11: MIN", x.rounds(MIN));
        refusals("11", x, 4, 0, 0, 0, 0);
        FairRates y = new FairRates();
        Due.same("11: without flows", y.rounds(30), 1);
        Due.same("11: that counts", y.count(4), 1);
        FairRates z = Nets.three();
        z.hold(0, true);
        z.hold(1, true);
        z.hold(2, true);
        Due.same("11: all held", z.rounds(5), 1);
        Due.same("11: no letters", z.count(3), 0);
        FairRates w = Nets.three();
        w.rounds(9);
        w.lose(0, 2);
        Due.same("11: lost ones that tell nothing new are quiet", w.rounds(9), 1);
        Due.same("11: but lost", w.count(11), 2);
        quietness();
    }

    /** Another AHEAD, BEHIND or TOLD alone is enough for a round not to be quiet. */
    private static void quietness() {
        FairRates x = new FairRates();
        x.link(0, 10);
        x.come(1, 1, 1, 0, 100);
        x.rounds(9);
        x.link(0, 20);
        Due.same("11: told alone", x.rounds(9), 2);
        x.change(0, 2, 90);
        Due.same("11: ahead alone", x.rounds(9), 2);
        FairRates y = new FairRates();
        y.link(0, 10);
        y.link(1, 40);
        y.come(1, 3, 1, 0, 100);
        y.come(2, 2, 1, 0, 100);
        y.rounds(9);
        y.hold(1, true);
        y.link(1, 50);
        Due.same("11: behind alone", y.rounds(9), 2);
        Due.same("11: behind", y.known(0, 0, 1), 40);
        y.lose(0, 1);
        y.change(0, 2, 99);
        Due.same("11: ahead where it is lost", y.rounds(9), 2);
    }

    private static void p12Forget() {
        FairRates x = Nets.three();
        x.rounds(9);
        x.hop(0);
        x.hold(2, true);
        x.lose(3, 4);
        Due.same("12: flows", x.forget(), 3);
        for (int f = 0; f < 3; f++) {
            Due.same("12: told " + f, x.flow(f, 7), 0);
            for (int l = 0; l < 2; l++) {
                if ((x.flow(f, 1) >> l & 1) != 0) {
                    Due.same("12: ahead " + f + " " + l, x.known(f, l, 0), 1_000_000);
                    Due.same("12: behind " + f + " " + l, x.known(f, l, 1), 1_000_000);
                }
            }
        }
        Due.same("12: nothing under way", x.count(12), 0);
        Due.same("12: advertised as at first", x.advertised(0), 50);
        Due.same("12: held stays", x.count(1), 1);
        Due.same("12: to be lost stays", x.count(13), 4);
        Due.same("12: letters stay counted", x.count(3), 10);
        Due.same("12: without flows", new FairRates().forget(), 0);
    }

    private static void p13Keep() {
        FairRates x = Nets.three();
        Due.yes("13: 0", x.keep(0));
        Due.yes("13: 1", x.keep(1));
        Due.no("13: 2", x.keep(2));
        Due.no("13: -1", x.keep(-1));
        refusals("13", x, 0, 0, 0, 0, 0);
        x.go(0);
        Due.yes("13: once more", x.keep(0));
        x.come(55, 1, 1, 0, 1);
        x.again(0);
        Due.same("13: the last that was kept", x.count(0), 2);
        x.again(1);
        Due.same("13: the other is another", x.count(0), 3);
    }

    private static void p14Again() {
        FairRates x = Nets.three();
        Due.no("14: nothing kept", x.again(1));
        Due.no("14: 2", x.again(2));
        Due.no("14: -1", x.again(-1));
        x.rounds(2);
        x.hop(0);
        x.hold(1, true);
        x.lose(1, 5);
        x.lose(2, 6);
        x.letter(0);
        x.keep(1);
        Due.no("14: not under the other", x.again(0));
        x.hop(0);
        x.hop(1);
        x.hold(1, false);
        x.lose(1, 0);
        x.forget();
        x.rounds(4);
        x.link(0, 500);
        x.change(2, 0, 5);
        x.change(2, 1, 5);
        x.change(2, 2, 50);
        x.route(0, 4);
        x.go(1);
        x.come(77, 9, 3, 0, 9);
        x.go(-1);
        Due.yes("14: again", x.again(1));
        Due.same("14: refused stay", x.count(7), 1);
        Due.same("14: letters", x.count(3), 8);
        Due.same("14: rounds", x.count(4), 2);
        Due.same("14: lost", x.count(11), 1);
        Due.same("14: to be lost", x.count(13), 10);
        Due.same("14: under way", x.count(12), 1);
        Due.same("14: held", x.count(1) * 10 + x.flow(1, 6), 11);
        Due.same("14: capacity", x.links(0, 0), 100);
        Due.same("14: flows of it", x.links(0, 2), 3);
        Due.same("14: name", x.named(8) * 1000 + x.named(77), 999);
        Due.same("14: weight, least, want", x.flow(2, 2) * 10_000 + x.flow(2, 3) * 1000 + x.flow(2, 4), 21_000);
        Due.same("14: links", x.flow(0, 1), 3);
        Due.same("14: told", x.flow(0, 7) * 100 + x.flow(1, 7), 2080);
        Due.same("14: behind", x.known(0, 0, 1), 20);
        Due.same("14: ahead", x.known(0, 1, 0), 80);
        Due.same("14: advertised", x.advertised(0), 80);
        Due.same("14: fair", x.fair(1, 0), 80);
        Due.same("14: the letter goes on", x.hop(0), 51);
        Due.yes("14: as often as one likes", x.again(1));
        Due.same("14: the letter goes on again", x.hop(0), 51);
        Due.same("14: and so the lost", x.count(11), 2);
        Due.yes("14: kept under 0", x.keep(0));
        Due.yes("14: again from 0", x.again(0));
        lettersUnderWay();
    }

    private static void lettersUnderWay() {
        FairRates x = Nets.three();
        x.link(5, 7);
        x.route(0, 35);
        x.hop(0);
        x.keep(0);
        x.hop(0);
        x.hop(0);
        x.hop(0);
        x.keep(1);
        x.hop(0);
        Due.yes("14: under way forth", x.again(0));
        Due.same("14: next link forth", x.hop(0), 1);
        Due.same("14: with what it bore", x.known(0, 1, 0), 50);
        Due.yes("14: under way back", x.again(1));
        Due.same("14: next link back", x.hop(0), 21);
        Due.same("14: with what it bore back", x.known(0, 1, 1), 7);
        Due.same("14: told", x.flow(0, 7), 7);
        x.again(0);
        Due.same("14: told before", x.flow(0, 7), 0);
    }

    public static void main(String[] args) {
        p01NewObject();
        p02Link();
        p03Come();
        p04Go();
        p05Change();
        p06Hold();
        p07Route();
        p08Lose();
        p09Hop();
        p10Letter();
        p11Rounds();
        p12Forget();
        p13Keep();
        p14Again();
        Due.end();
    }
}

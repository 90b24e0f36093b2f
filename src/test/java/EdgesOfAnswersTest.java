/** Boundary cases of promises 15 to 34: each run stands under the sentence that it is about. */
public final class EdgesOfAnswersTest {
    /** Levels 20, 80, 20. */
    private static final String THREE = """
        link(0, 100); link(1, 60); come(7, 3, 1, 0, 1000); come(8, 1, 1, 0, 1000); come(9, 2, 2, 0, 1000)
        """;
    /** Levels 20, 68, 20, 6, 6, 5 in the steps 2, 3, 2, 1, 1, 0; flow 5 has no witness. */
    private static final String SIX = """
        link(0, 100); link(1, 62); link(2, 30); link(3, 1000)
        come(10, 3, 1, 0, 1000); come(11, 1, 1, 0, 1000); come(12, 2, 2, 0, 1000)
        come(13, 4, 3, 0, 20); come(14, 5, 1, 12, 40); come(15, 8, 2, 0, 11)
        """;
    /** Rounds come to rest two behind the one in which the letter of flow 1 is not lost at link 0. */
    private static final String LATE = """
        link(0, 12); link(1, 6); link(2, 3); link(3, 11); link(4, 7)
        come(0, 24, 6, 0, 9); come(1, 27, 5, 0, 7); come(2, 18, 2, 0, 12); come(3, 14, 7, 0, 12); come(4, 14, 1, 0, 5)
        """;

    private EdgesOfAnswersTest() {
    }

    /** Twenty flows, all TOLD 1,000,000, of weight 9, over link 0. */
    private static String greatestBookings() {
        StringBuilder text = new StringBuilder("link(1, 1000000)\n");
        for (int f = 0; f < 20; f++) {
            text.append("come(F, 2, 1, 0, 1000000); letter(F); route(F, 1); change(F, 0, 9)\n".replace("F", "" + f));
        }
        return text.toString();
    }

    /** Twenty flows that want 10, 20 and so on up to 200, or down. */
    private static String twentyWants(boolean isUp) {
        StringBuilder text = new StringBuilder("link(0, 1000000)\n");
        for (int f = 0; f < 20; f++) {
            text.append("come(" + f + ", 1, 1, 0, " + (isUp ? 10 + 10 * f : 200 - 10 * f) + ")\n");
        }
        return text.toString();
    }

    private static void p15Links() {
        Script.promise(15, "CAPACITY (what 0), BOUND (1), FLOWS as bits (2)", """
            link(9, 1000000); come(0..19, 512, 1, 5, 5)
            links(9, 0..2)             -> 1000000 100 1048575
            links(0, 0..2)             -> 0 0 0
            go(0); links(9, 1..2)      -> 95 1048574
            go(19); links(9, 1..2)     -> 90 524286
            """);
        Script.promise(15, "NONE: others", """
            link(0, 5); links(-1 10 32 MIN MAX, 0) -> NONE*5
            links(0, -1 3 MIN MAX)     -> NONE*4
            refused                    -> 0*5
            """);
    }

    private static void p16Flow() {
        Script.promise(16, "of a FLOW, what 0 .. 8", """
            link(0 9, 1000000); come(999999, 513, 9, 1000000, 1000000); come(0, 512, 1, 0, 0)
            flow(0, 0..8)              -> 999999 513 9 1000000 1000000 111111 0 0 1000000
            flow(1, 0..8)              -> 0 512 1 0 0 0 0 0 0
            hold(1, true); flow(0..1, 6) -> 0 1
            flow(0..1, -1)             -> NONE NONE
            flow(0..1, 9)              -> NONE NONE
            flow(0, MIN MAX)           -> NONE NONE
            """);
        Script.promise(16, "NoSuchElementException: no such FLOW", """
            flow(0, 0)                 -> throws
            come(0..19, 1, 1, 0, 0); flow(19, 0) -> 19
            flow(-1 20 32 MIN MAX, 0)  -> throws*5
            go(19); flow(19, 0..8)     -> throws*9
            flow(19, 9)                -> throws  // no such FLOW is told first
            refused                    -> 0*5
            """);
    }

    private static void p17Named() {
        Script.promise(17, "The FLOW with a NAME. NONE.", """
            named(0)                   -> NONE
            come(0 999999, 1, 1, 0, 0) -> 0 1
            named(0 999999)            -> 0 1
            named(1 -1 1000000 MIN MAX) -> NONE*5
            go(0); named(0)            -> NONE
            come(5, 1, 1, 0, 0); named(0 5) -> NONE 0
            come(0, 1, 1, 0, 0); named(0) -> 2
            refused                    -> 0*5
            """);
    }

    private static void p18Fair() {
        Script.promise(18, "RATE (what 0), LEVEL (1), WITNESS (2), STEP (3, 0 on)", SIX + """
            fair(0..5, 0)              -> 20 68 40 18 12 10
            fair(0..5, 1)              -> 20 68 20 6 6 5
            fair(0..5, 2)              -> 1 0 1 2 2 10
            fair(0..5, 3)              -> 2 3 2 1 1 0
            fair(0, -1 4 MIN MAX)      -> NONE*4
            fair(6 -1 20 32 MIN MAX, 0) -> throws*6
            fair(6, 4)                 -> throws
            go(5); fair(5, 0)          -> throws
            fair(0..4, 3)              -> 1 2 1 0 0
            """);
        Script.promise(18, "twenty STEPS", twentyWants(true) + """
            fair(0 9 19, 3)            -> 0 9 19
            fair(0 9 19, 1)            -> 10 100 200
            fair(19, 2)                -> 10
            link(0, 2100); fair(19, 2) -> 0       // just what all want
            link(0, 2099); fair(18 19, 0) -> 190 199
            fair(18 19, 3)             -> 18 19
            link(0, 2090); fair(18 19, 0) -> 190 190
            fair(18 19, 2)             -> 0 0
            link(0, 0); fair(0..19, 0) -> 0*20
            """);
        Script.promise(18, "no such FLOW at all", """
            fair(0, 0)                 -> throws
            refused                    -> 0*5
            """);
    }

    private static void p19Used() {
        Script.promise(19, "RATES (what 0), what is left (1), of how many FLOWS it is the WITNESS (2)", SIX + """
            used(0, 0..2)              -> 100 0 1
            used(1, 0..2)              -> 60 2 2
            used(3, 0..2)              -> 10 990 0
            used(9, 0..2)              -> 0 0 0   // no FLOWS, CAPACITY 0
            link(9, 1000000); used(9, 0..2) -> 0 1000000 0
            used(10, 2)                -> NONE    // though 10 is what FLOW 5 has
            used(-1 10 32 MIN MAX, 0)  -> NONE*5
            used(0, -1 3 MIN MAX)      -> NONE*4
            refused                    -> 0*5
            """);
        Script.promise(19, "the WITNESS of twenty FLOWS", """
            link(4, 1000000); come(0..19, 16, 1, 0, 1000000); used(4, 0..2) -> 1000000 0 20
            link(4, 999999); used(4, 0..2) -> 999980 19 20
            """);
    }

    private static void p20Water() {
        Script.promise(20, "STEPS (what 0), the least LEVEL (1), the greatest (2; NONE both without FLOWS), all RATES (3)", """
            water(0..3)                -> 0 NONE NONE 0
            come(1, 1, 1, 0, 9); water(0..3) -> 1 0 0 0   // CAPACITY 0
            link(0..9, 1000000); change(0, 2, 1000000); water(0..3) -> 1 1000000 1000000 1000000
            come(2, 2, 9, 0, 1000000); water(0..3) -> 2 111111 1000000 1999999
            go(0); go(1); water(0..3)  -> 0 NONE NONE 0
            water(-1 4 MIN MAX)        -> NONE*4
            refused                    -> 0*5
            """);
        Script.promise(20, "twenty STEPS", twentyWants(false) + """
            water(0..3)                -> 20 10 200 2100
            """);
        Script.promise(20, "the least and the greatest are neither the first nor the last FLOW's", """
            link(0, 100); come(1, 1, 1, 0, 3); come(2, 1, 1, 0, 4); come(3, 1, 1, 0, 2); come(4, 1, 1, 0, 3)
            water(0..3)                -> 3 2 4 12
            """);
    }

    private static void p21Step() {
        Script.promise(21, "the k-th STEP (0 on): LEVEL (what 0), FLOWS (1), LINKS with that TIDE (2), RATES (3)", SIX + """
            step(0, 0..3)              -> 5 32 0 10
            step(3, 0..3)              -> 68 2 1 68
            step(4 -1 20 MIN MAX, 0)   -> NONE*5
            step(0, -1 4 MIN MAX)      -> NONE*4
            step(4, 4)                 -> NONE
            """);
        Script.promise(21, "no STEPS, twenty STEPS", "step(0, 0..3) -> NONE*4\n" + twentyWants(true) + """
            step(0, 0..3)              -> 10 1 0 10
            step(19, 0..3)             -> 200 524288 0 200
            step(20, 0)                -> NONE
            """);
        Script.promise(21, "LINKS with FLOWS that were not FIXED", """
            link(0..9, 50); come(1, 1023, 1, 0, 50); step(0, 0..3) -> 50 1 1023 50
            come(2, 512, 1, 0, 20); link(9, 70); step(0, 0..3) -> 20 2 0 20
            step(1, 0..3)              -> 50 1 1023 50    // LINK 9 has just 50 left, too
            link(9, 71); step(1, 0..3) -> 50 1 511 50
            """);
    }

    private static void p22Ranked() {
        Script.promise(22, "the k-th FLOW (0 on) by LEVEL, then number. NONE.", "ranked(0) -> NONE\n" + twentyWants(false) + """
            ranked(0..19)              -> 19 18 17 16 15 14 13 12 11 10 9 8 7 6 5 4 3 2 1 0
            ranked(20 -1 MIN MAX)      -> NONE*4
            link(0, 0); ranked(0..19)  -> 0..19   // all alike
            go(0); ranked(0 18 19)     -> 1 19 NONE
            """);
        Script.promise(22, "LEVELS that differ by 1", """
            link(0, 100); come(1, 1, 1, 0, 6); come(2, 1, 1, 0, 5); come(3, 1, 1, 0, 6); come(4, 1, 1, 0, 7)
            ranked(0..4)               -> 1 0 2 3 NONE
            change(3, 2, 4); ranked(0..4) -> 3 1 0 2 NONE
            """);
    }

    private static void p23Proof() {
        Script.promise(23, "greater LEVEL (what 0), the same, it too (1), RATES of all of less LEVEL there (2)", SIX + """
            proof(1, 0..2)             -> 0 1 32
            proof(0, 0..2)             -> 0 2 0
            proof(3, 0..2)             -> 0 2 0
            proof(0, -1 3 MIN MAX)     -> NONE*4
            """);
        Script.promise(23, "NONE: WITNESS 10", SIX + """
            proof(5, -1..3)            -> NONE*5
            link(3, 10); proof(5, 0..2) -> 0 1 0  // LINK 3 has just what it wants
            link(3, 12); proof(5, 0..2) -> NONE*3
            """);
        Script.promise(23, "NoSuchElementException: no such FLOW", """
            proof(0, 0)                -> throws
            come(1, 1, 1, 0, 1); proof(0, 0..2) -> 0 1 0
            proof(1 -1 20 32 MIN MAX, 0) -> throws*6
            proof(1, 3)                -> throws
            refused                    -> 0*5
            """);
        Script.promise(23, "FLOWS of the same LEVEL by OWN count, those elsewhere do not", """
            link(0, 12); link(1, 100); come(1, 1, 1, 0, 4); come(2, 1, 1, 0, 50); come(3, 3, 1, 0, 50); come(4, 2, 1, 0, 4)
            fair(0..3, 1)              -> 4 4 4 4
            proof(0, 0..2)             -> 0 3 0
            link(0, 14); proof(1, 0..2) -> 0 3 0
            link(0, 15); proof(1, 0..2) -> 0 2 4
            proof(3, 0)                -> NONE
            """);
    }

    private static void p24Fullest() {
        StringBuilder ten = new StringBuilder("fullest(0) -> NONE\nlink(0..9, 100)\n");
        for (int l = 0; l < 10; l++) {
            ten.append("come(" + l + ", " + (1 << l) + ", 1, 0, " + 10 * l + ")\n");
        }
        Script.promise(24, "the k-th LINK (0 on) by what is left, the least first, then by number. NONE.", ten + """
            fullest(0..9)              -> 9 8 7 6 5 4 3 2 1 0
            fullest(10 -1 MIN MAX)     -> NONE*4
            link(3, 39); fullest(0..2) -> 3 9 8
            link(3, 40); fullest(0..2) -> 3 9 8   // as much left: by number
            link(3, 41); fullest(0..2) -> 9 3 8
            """);
        Script.promise(24, "of those that have FLOWS", SIX + """
            fullest(0..4)              -> 0 2 1 3 NONE
            go(5); fullest(0..3)       -> 0 2 1 NONE
            link(9, 5); fullest(3)     -> NONE
            """);
    }

    private static void p25Even() {
        StringBuilder ten = new StringBuilder("link(0..9, 1000000)\n");
        for (int l = 0; l < 10; l++) {
            ten.append("come(" + l + ", " + (1 << l) + ", 1, 0, " + (1_000_000 - l) + ")\n");
        }
        Script.promise(25, "the upper number (what 0), the lower one (1), in lowest terms: great ones", ten + """
            even(0..1)                 -> 3999964000081 3999964000114
            """);
        Script.promise(25, "NONE: all are 0, others", """
            even(0..1)                 -> NONE NONE     // no FLOWS
            come(1, 1, 1, 0, 9); even(0..1) -> NONE NONE
            link(0, 1); even(0..1)     -> 1 1
            come(2, 2, 1, 0, 9); even(0..1) -> 1 2
            link(1, 2); even(0..1)     -> 9 10
            even(-1 2 MIN MAX)         -> NONE*4
            refused                    -> 0*5
            """);
        Script.promise(25, "all alike", """
            link(0, 1000000); come(0..19, 1, 1, 0, 1000000); even(0..1) -> 1 1
            """);
    }

    private static void p26Advertised() {
        Script.promise(26, "What a LINK ADVERTISES. NONE: others", """
            advertised(0..9)           -> 1000000*10
            advertised(-1 10 32 MIN MAX) -> NONE*5
            come(1, 1, 1, 0, 9); advertised(0) -> 0
            link(0, 1); advertised(0)  -> 1
            link(0, 1000000); advertised(0) -> 1000000
            come(2, 1, 1, 0, 9); advertised(0) -> 500000
            letter(0); advertised(0)   -> 999991
            letter(1); advertised(0)   -> 1000000
            refused                    -> 0*5
            """);
        StringBuilder bent = new StringBuilder("link(0, 1000000)\n");
        for (int f = 0; f < 20; f++) {
            bent.append("come(" + f + ", 1, 1, " + (10 + 10 * f) + ", " + (1000 + 10 * f) + ")\n");
        }
        Script.promise(26, "twenty FLOWS, each with a LEAST and an ELSEWHERE of its own", bent + """
            letter(0..19)
            link(0, 21900); advertised(0) -> 1000000 // just what they have elsewhere
            link(0, 21899); advertised(0) -> 1189
            link(0, 21890); advertised(0) -> 1180
            link(0, 21889); advertised(0) -> 1179
            link(0, 21888); advertised(0) -> 1179
            link(0, 2100); advertised(0)  -> 10      // just LEAST of all
            link(0, 2101); advertised(0)  -> 11
            link(0, 2110); advertised(0)  -> 20
            link(0, 2111); advertised(0)  -> 20
            link(0, 2112); advertised(0)  -> 21
            """);
        Script.promise(26, "just below 1,000,000", """
            link(0, 1000000); come(1, 1, 1, 0, 999999); letter(0); advertised(0) -> 1000000
            link(0, 999999); advertised(0) -> 1000000
            link(0, 999998); advertised(0) -> 999998
            new
            link(0, 999999); come(1, 1, 1, 999999, 1000000); advertised(0) -> 999999
            fair(0, 0..2)              -> 999999 999999 0
            link(0, 1000000); advertised(0) -> 1000000
            fair(0, 0..2)              -> 1000000 1000000 0
            """);
        Script.promise(26, "twenty FLOWS of WEIGHT 9", """
            link(0, 179); come(0..19, 1, 9, 0, 1000); advertised(0) -> 0
            link(0, 180); advertised(0) -> 1
            link(0, 1000000); advertised(0) -> 5555
            """);
    }

    private static void p27Pass() {
        Script.promise(27, "How many PASSES (k NONE), t of the k-th (0 on): each but the last gives one new mark", """
            link(0, 999999); come(0, 1, 1, 0, 0); come(1, 1, 1, 0, 111111); come(2, 1, 1, 0, 124999)
            come(3, 1, 1, 0, 126984); come(4, 1, 1, 0, 127314); come(5, 1, 1, 0, 127381); come(6, 1, 1, 0, 127397)
            come(7, 1, 1, 0, 127403); come(8, 1, 1, 0, 127406); letter(0..8)
            pass(0, NONE)              -> 10
            pass(0, 0..9)              -> 111111 124999 126984 127314 127381 127397 127403 127406 127410 1000000
            pass(0, 10)                -> NONE
            """);
        StringBuilder one = new StringBuilder("link(0, 371); come(0, 1, 1, 0, 9); come(1, 1, 1, 0, 10)\n");
        for (int f = 2; f < 20; f++) {
            one.append("come(F, 1, 1, L, L)\n".replace("F", "" + f).replace("L", "" + (9 + f)));
        }
        Script.promise(27, "as many PASSES as there can be: twenty FLOWS, one new mark by each", one + """
            letter(0..19)
            pass(0, NONE)              -> 21
            pass(0, 0..20)             -> 10..29 1000000
            pass(0, 21)                -> NONE
            """);
        Script.promise(27, "no FLOWS: 1,000,000", """
            pass(0, NONE)              -> 1
            pass(0, 0)                 -> 1000000
            pass(0, 1)                 -> NONE
            pass(-1 10 32 MIN MAX, 0)  -> NONE*5
            pass(-1 10, NONE)          -> NONE*2
            pass(0, -2 MIN MAX)        -> NONE*3
            refused                    -> 0*5
            """);
        Script.promise(27, "all whose ELSEWHERE is less than t have a mark: as much is not less", """
            link(0, 20); come(1..2, 1, 1, 0, 10); letter(0..1)
            pass(0, NONE)              -> 1
            pass(0, 0)                 -> 10
            advertised(0)              -> 1000000 // it goes by another rule
            link(0, 21); pass(0, NONE) -> 1
            link(0, 22); pass(0, NONE) -> 2       // both at once: all are marked
            pass(0, 0..2)              -> 11 1000000 NONE
            link(0, 0); pass(0, NONE)  -> 1
            pass(0, 0)                 -> 0
            """);
        Script.promise(27, "RATES of those with a mark by their ELSEWHERE: LEAST, if that is more", """
            link(0, 100); link(1, 20); come(1, 3, 1, 0, 50); come(2, 1, 1, 0, 1000); letter(0); change(0, 1, 20)
            known(0, 0, 1)             -> 20
            pass(0, NONE)              -> 2
            pass(0, 0..1)              -> 50 80
            change(0, 1, 0); pass(0, 0..1) -> 50 80
            link(1, 30); change(0, 1, 25); pass(0, 0..1) -> 50 75
            """);
    }

    private static void p28Known() {
        Script.promise(28, "AHEAD (what 0), BEHIND (1), 1 if MARKED, else 0 (2). NONE: it has not that LINK, others", """
            link(0 9, 50); come(1, 513, 1, 0, 20)
            known(0, 0 9, 0)           -> 1000000*2
            known(0, 0..9, 1)          -> 1000000 NONE*8 1000000
            letter(0); known(0, 0, 0..2) -> 20 1000000 1
            known(0, 0, -1 3 MIN MAX)  -> NONE*4
            known(0, -1 10 32 MIN MAX, 0) -> NONE*5
            known(1 -1 20 32 MIN MAX, 0, 0) -> NONE*6
            go(0); known(0, 0, 0..2)   -> NONE*3
            refused                    -> 0*5
            """);
    }

    private static void p29Booked() {
        Script.promise(29, "BOOKED of a LINK. NONE: others", """
            booked(0..9)               -> 0*10
            booked(-1 10 32 MIN MAX)   -> NONE*5
            link(0, 9); come(1, 1, 1, 4, 9); booked(0) -> 4
            letter(0); booked(0)       -> 9
            go(0); booked(0)           -> 0
            refused                    -> 0*5
            """);
        Script.promise(29, "as much as can be", greatestBookings() + """
            flow(0 19, 7..8)           -> 1000000 9000000 1000000 9000000
            booked(0)                  -> 180000000
            booked(1)                  -> 0
            over()                     -> 1
            """);
    }

    private static void p30Over() {
        Script.promise(30, "OVERBOOKED LINKS, as bits", """
            over()                     -> 0
            link(0..9, 9); come(1, 1023, 1, 0, 9); letter(0); over() -> 0
            link(0..9, 8); over()      -> 1023
            link(9, 9); over()         -> 511
            link(0, 10); over()        -> 510
            forget(); over()           -> 0
            """);
    }

    /** What rounds one by one give is what settling() tells of them. */
    private static void settlingByRounds(int lost) {
        FairRates x = new FairRates();
        Script.calls(x, LATE);
        x.lose(0, lost);
        int[] due = {x.settling(0), x.settling(1), x.settling(2)};
        int overbooked = 0;
        int done = 0;
        boolean isQuiet = false;
        while (done < 60 && !isQuiet) {
            isQuiet = x.settling(0) == 1;
            x.rounds(1);
            overbooked += x.over() != 0 ? 1 : 0;
            done++;
        }
        Due.same("31: rounds, with LOST " + lost, due[0], isQuiet ? done : 61);
        Due.same("31: OVERBOOKED ones of those that there were, with LOST " + lost, due[1], overbooked);
        Due.same("31: FAIR behind those that there were, with LOST " + lost, due[2], x.off() == 0 ? 1 : 0);
        Due.same("31: ROUNDS, with LOST " + lost, x.count(4), done);
    }

    private static void p31Settling() {
        for (int lost : new int[] {0, 1, 56, 57, 58, 99}) {
            settlingByRounds(lost);
        }
        Script.promise(31, "how many till one is QUIET, that too (60 at most; 61: not by so many)", LATE + """
            settling(0)                -> 3
            lose(0, 57); settling(0)   -> 60
            lose(0, 58); settling(0)   -> 61
            lose(0, 99); settling(0)   -> 61
            settling(-1 3 MIN MAX)     -> NONE*4
            refused                    -> 0*5
            """);
        Script.promise(31, "rounds() of just as many", LATE + """
            lose(0, 27); settling(0)   -> 30
            rounds(30)                 -> 30
            settling(0)                -> 1
            forget(); lose(0, 28); settling(0) -> 31
            rounds(30)                 -> 30
            settling(0)                -> 1
            """);
        Script.promise(31, "without FLOWS, all HELD up", """
            settling(0..2)             -> 1 0 1
            link(0, 9); come(1, 1, 1, 0, 9); hold(0, true); settling(0..2) -> 1 0 0
            letter(0); settling(0..2)  -> 1 0 1
            link(0, 8); settling(0..2) -> 1 1 0   // an OVERBOOKED LINK behind the QUIET one, too
            hold(0, false); settling(0..2) -> 2 0 1
            """);
        Script.promise(31, "1 if each FLOW's TOLD is its LEVEL by FAIR then", THREE + """
            settling(0..2)             -> 3 0 1
            hold(1, true); settling(0..2) -> 3 0 0    // one of three is not
            count(3..4)                -> 0 0
            """);
    }

    private static void p32Swings() {
        Script.promise(32, "n (1 .. 60) ROUNDS", THREE + """
            swings(1, 1, 0..2)         -> 1 80 80
            swings(1, 60, 0..2)        -> 1 80 80
            swings(1, 0 61 -1 MIN MAX, 0) -> NONE*5
            swings(1, 1, -1 3 MIN MAX) -> NONE*4
            swings(3 -1 20 32 MIN MAX, 1, 0) -> NONE*6
            refused                    -> 0*5
            """);
        Script.promise(32, "how often TOLD would be another one; QUIET or not", THREE + """
            rounds(30); swings(1, 60, 0..2) -> 0 80 80
            lose(1, 99); link(1, 90); swings(0, 49 50 51, 0) -> 0 0 1   // two of 99 in each ROUND
            swings(2, 49 50 51, 0)     -> 0 1 1
            swings(0, 51, 1..2)        -> 30 20
            """);
        Script.promise(32, "the first and the last of all that there can be", """
            link(0, 100); come(0..19, 1, 1, 0, 5); swings(0 19, 1, 1) -> 5 5
            """);
        Script.promise(32, "the greatest TOLD, the least: 1,000,000 and 0", """
            link(0, 1000000); come(1, 1, 1, 0, 1000000); swings(0, 1 60, 1..2) -> 1000000*4
            rounds(30); link(0, 0); swings(0, 1, 0..2) -> 1 0 0
            """);
    }

    private static void p33Peak() {
        Script.promise(33, "the greatest BOOKED of a LINK behind any of n (1 .. 60) ROUNDS", THREE + """
            peak(0, 1 60)              -> 100 100
            peak(0 9, 0 61 -1 MIN MAX) -> NONE*10
            peak(-1 10 32 MIN MAX, 1)  -> NONE*5
            peak(9, 1 60)              -> 0 0
            refused                    -> 0*5
            """);
        Script.promise(33, "behind, not ahead of them; HELD ones stay", THREE + """
            rounds(30); link(0, 50); booked(0) -> 100
            peak(0, 1)                 -> 50
            hold(0..2, true); peak(0, 60) -> 100
            """);
        Script.promise(33, "as much as can be", greatestBookings() + """
            hold(0..19, true); peak(0, 60) -> 180000000
            """);
    }

    private static void p34Off() {
        Script.promise(34, "How far TOLD of all FLOWS are off, without sign, together", """
            off()                      -> 0
            link(0, 9); come(1, 1, 1, 0, 9); off() -> 9
            letter(0); off()           -> 0
            link(0, 8); off()          -> 1
            link(0, 10); change(0, 2, 10); off() -> 1
            """);
        Script.promise(34, "as much as can be", greatestBookings() + """
            off()                      -> 20000000
            """);
    }

    public static void main(String[] args) {
        p15Links();
        p16Flow();
        p17Named();
        p18Fair();
        p19Used();
        p20Water();
        p21Step();
        p22Ranked();
        p23Proof();
        p24Fullest();
        p25Even();
        p26Advertised();
        p27Pass();
        p28Known();
        p29Booked();
        p30Over();
        p31Settling();
        p32Swings();
        p33Peak();
        p34Off();
        Script.allHadRuns(15, 34);
        Due.end();
    }
}

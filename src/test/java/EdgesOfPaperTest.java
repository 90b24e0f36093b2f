/** Boundary cases of promises 35 to 46: each run stands under the sentence that it is about. */
public final class EdgesOfPaperTest {
    /** Levels 20, 80, 20. */
    private static final String THREE = """
        link(0, 100); link(1, 60); come(7, 3, 1, 0, 1000); come(8, 1, 1, 0, 1000); come(9, 2, 2, 0, 1000)
        """;
    /** Two flows of weight 1 over a link of 100. */
    private static final String PAIR = """
        link(0, 100); come(1, 1, 1, 0, 1000); come(2, 1, 1, 0, 1000)
        """;
    /** All numbers are given. */
    private static final String FULL = """
        link(0, 100); come(0..19, 1, 1, 0, 1000)
        """;

    private EdgesOfPaperTest() {
    }

    private static void p35Would() {
        Script.promise(35, "RATE that such a FLOW would get by FAIR, were it to come, too", PAIR + """
            would(1, 1, 0, 1000)       -> 33
            would(1, 9, 0, 1000)       -> 81      // 9 times 9
            would(1, 1, 0, 0)          -> 0
            would(1, 1, 0, 1000000)    -> 33
            would(1, 1, 100, 100)      -> 100     // all that there is
            would(1023, 1, 0, 1000)    -> 0       // the others have a CAPACITY of 0
            link(9, 1000000); would(512, 1, 1000000, 1000000) -> 1000000
            would(512, 9, 0, 1000000)  -> 999999
            count(0)                   -> 2
            fair(0..1, 0)              -> 50 50
            """);
        Script.promise(35, "NONE: come() would be REFUSED for something else than its NAME: 0", PAIR + """
            would(0 1024 1025 -1 MIN MAX, 1, 0, 9) -> NONE*6
            would(1, 0 10 -1 MIN MAX, 0, 9)        -> NONE*5
            would(1, 1, -1 1000001 MIN MAX, 1000000) -> NONE*4
            would(1, 1, 0, -1 1000001 MIN MAX)     -> NONE*4
            would(1, 1, 5, 4)                      -> NONE
            would(1, 1, 5, 5)                      -> 5
            refused                                -> 0*5
            """);
        Script.promise(35, "NONE: 3", """
            link(0, 100); come(0..18, 1, 1, 0, 1000); would(1, 1, 0, 1000) -> 5
            come(19, 1, 1, 0, 1000); would(1, 1, 0, 1000) -> NONE
            go(7); would(1, 1, 0, 1000) -> 5
            """);
        Script.promise(35, "NONE: 4", PAIR + """
            change(0, 1, 60); would(1, 1, 41, 50) -> NONE
            would(1, 1, 40, 50)        -> 40
            fair(0..1, 0)              -> 60 40
            would(3, 1, 1, 50)         -> NONE    // LINK 1
            would(3, 1, 0, 50)         -> 0
            refused                    -> 0*5
            """);
        Script.promise(35, "whatever NAMES there are", """
            link(0, 9); come(0 999999, 1, 1, 0, 9); would(1, 1, 0, 9) -> 3
            named(-1)                  -> NONE
            """);
    }

    private static void p36Better() {
        Script.promise(36, "RATE that a FLOW would get by FAIR, were it ROUTED so", THREE + """
            better(0, 1)               -> 50
            better(0, 1023)            -> 0
            better(0, 3)               -> 20      // REFUSED by 2 is no matter: its RATE as it is
            better(0, 0 1024 -1 MIN MAX) -> NONE*5
            better(3 -1 20 32 MIN MAX, 1) -> NONE*6
            better(3, 3)               -> NONE
            refused                    -> 0*5
            flow(0, 1)                 -> 3
            """);
        Script.promise(36, "NONE: 4", THREE + """
            link(2, 5); change(1, 1, 6); better(1, 4 5) -> NONE*2
            change(1, 1, 5); better(1, 4 5) -> 5 5
            better(1, 1)               -> 80
            change(2, 1, 56); better(1, 2) -> NONE
            change(2, 1, 55); better(1, 2) -> 5
            """);
        Script.promise(36, "of the last of twenty", FULL + """
            better(19, 1)              -> 5
            link(9, 70); better(19, 512) -> 70
            """);
    }

    private static void p37Spares() {
        Script.promise(37, "How much more all other FLOWS would get, were a FLOW's WANT so much", PAIR + """
            spares(0, 0)               -> 50
            spares(0, 49)              -> 1
            spares(0, 50)              -> 0
            spares(0, 1000)            -> 0       // as it is
            spares(0, 1000000)         -> 0
            change(0, 2, 10); spares(0, 1000000) -> -40
            spares(0, 11)              -> -1
            spares(0, 0)               -> 10
            """);
        Script.promise(37, "Integer.MIN_VALUE: no such FLOW, WANT below its LEAST, others", PAIR + """
            spares(2 -1 20 32 MIN MAX, 5) -> MIN*6
            spares(0, -1 1000001 MIN MAX) -> MIN*4
            change(0, 1, 60); spares(0, 59) -> MIN
            spares(0, 60)              -> 0
            spares(0, 0)               -> MIN
            refused                    -> 0*5
            flow(0, 4)                 -> 1000
            """);
        Script.promise(37, "one FLOW alone", """
            link(0, 9); come(1, 1, 1, 0, 9); spares(0, 0) -> 0
            spares(0, 9)               -> 0
            """);
    }

    private static void p38WeightFor() {
        Script.promise(38, "The least WEIGHT by which a FLOW would get a RATE of as much or more. NONE: by none", PAIR + """
            weightFor(0, 50 51)        -> 1 2     // 50, 66, 75, 80, 80, 84, 84, 88, 90
            weightFor(0, 80 81)        -> 4 6
            weightFor(0, 88 89)        -> 8 9
            weightFor(0, 90 91)        -> 9 NONE
            weightFor(0, MAX)          -> NONE
            change(0, 0, 9); weightFor(0, 50) -> 1
            flow(0, 2)                 -> 9
            """);
        Script.promise(38, "any rate (0 and below: 1)", """
            come(1, 1, 9, 0, 9); weightFor(0, 0 -1 MIN) -> 1*3
            weightFor(0, 1)            -> NONE
            """);
        Script.promise(38, "NONE: others", PAIR + """
            weightFor(2 -1 20 32 MIN MAX, 0) -> NONE*6
            refused                    -> 0*5
            """);
        Script.promise(38, "a RATE of LEAST is one, too", PAIR + """
            change(0, 1, 60); weightFor(0, 60 61) -> 1 2
            """);
    }

    private static void p39RoomFor() {
        Script.promise(39, "The greatest LEAST (and WANT) with which a FLOW over LINKS could come now", """
            roomFor(1 1023)            -> 0 0
            link(0..9, 1000000); roomFor(1 512 1023) -> 1000000*3
            come(1, 4, 1, 999999, 999999); roomFor(3 4 1023) -> 1000000 1 1
            come(2, 4, 1, 2, 2)        -> NONE
            come(2, 4, 1, 1, 1)        -> 1
            roomFor(4)                 -> 0
            come(3, 4, 1, 0, 0)        -> 2
            """);
        Script.promise(39, "NONE: no room, no LINKS", """
            roomFor(0 1024 1025 -1 MIN MAX) -> NONE*6
            come(0..18, 1, 1, 0, 0); roomFor(1) -> 0
            come(19, 1, 1, 0, 0); roomFor(1) -> NONE
            go(0); roomFor(1)          -> 0
            refused                    -> 0*5
            """);
    }

    private static void p40Touched() {
        Script.promise(40, "FLOWS (bits) whose LEVEL would be another one, were CAPACITY 1 less", PAIR + """
            touched(0)                 -> 3
            link(0, 101); touched(0)   -> 0       // 1 is left
            link(0, 1); touched(0)     -> 0
            link(0, 2); touched(0)     -> 3
            link(0, 100); change(0, 2, 50); touched(0) -> 3
            link(0, 101); touched(0)   -> 0
            link(0, 102); touched(0)   -> 2       // FLOW 0 has what it wants
            links(0, 0)                -> 102
            """);
        Script.promise(40, "NONE: it is its BOUND, others", """
            touched(0..9)              -> NONE*10 // 0 of 0
            touched(-1 10 32 MIN MAX)  -> NONE*5
            link(0, 1); touched(0)     -> 0       // no FLOWS
            come(1, 1, 1, 1, 9); touched(0) -> NONE
            link(0, 2); touched(0)     -> 1
            refused                    -> 0*5
            """);
        Script.promise(40, "all twenty", FULL + """
            touched(0)                 -> 1048575
            """);
    }

    private static void p41Without() {
        Script.promise(41, "Were a FLOW not there: how much more another one would get (may be below 0)", THREE + """
            without(0, 1..2)           -> 20 20
            without(2, 0..1)           -> 30 -30
            without(1, 0)              -> 0
            """);
        Script.promise(41, "Integer.MIN_VALUE: no such FLOWS, alike", THREE + """
            without(0, 0)              -> MIN
            without(3 -1 20 32 MIN MAX, 0) -> MIN*6
            without(0, 3 -1 20 32 MIN MAX) -> MIN*6
            without(3, 3)              -> MIN
            count(0)                   -> 3
            refused                    -> 0*5
            """);
        Script.promise(41, "the first and the last of twenty", FULL + """
            without(0, 19)             -> 0
            link(0, 114); without(19, 0) -> 1
            """);
    }

    private static void p42Wider() {
        Script.promise(42, "Were CAPACITY by as much more (0 or more; it is 1,000,000 at most then)", PAIR + """
            wider(0, 0 1 2, 0)         -> 0 0 1
            wider(0, 1 2, 1)           -> 0 2
            wider(0, 999900, 0)        -> 950
            change(0..1, 2, 1000000); wider(0, 999899 999900 999901 MAX, 0) -> 499949 499950 499950 499950
            wider(0, MAX, 1)           -> 999900
            link(0, 1000000); wider(0, 0 1 MAX, 1) -> 0*3
            wider(9, MAX, 0)           -> 0
            links(0, 0)                -> 1000000
            """);
        Script.promise(42, "Integer.MIN_VALUE: others, no FLOWS", """
            wider(0, 1, 0..1)          -> MIN MIN
            come(1, 1, 1, 0, 9); wider(0, 1, 0..1) -> 1 1
            wider(0, -1 MIN, 0)        -> MIN*2
            wider(0, 1, -1 2 MIN MAX)  -> MIN*4
            wider(-1 10 32 MIN MAX, 1, 0) -> MIN*5
            refused                    -> 0*5
            """);
    }

    private static void p43Tight() {
        Script.promise(43, "NONE: no FLOWS, none makes it more", """
            tight()                    -> NONE
            link(0, 50); come(1, 1, 1, 0, 49); tight() -> NONE   // it has what it wants
            change(0, 2, 50); tight()  -> NONE
            change(0, 2, 51); tight()  -> 0
            come(2, 2, 1, 0, 0); tight() -> NONE
            go(1); come(2, 3, 1, 0, 51); tight() -> 1    // LINK 1 has 0
            link(1, 25); tight()       -> NONE    // both are as tight
            link(1, 24); tight()       -> 1
            link(1, 26); tight()       -> 0
            """);
        Script.promise(43, "100 more", """
            come(0..10, 512, 9, 0, 99); come(11, 512, 1, 0, 99); tight() -> 9    // WEIGHTS 100 in all
            change(11, 0, 2); tight()  -> NONE    // 101
            link(9, 1); tight()        -> 9
            links(9, 0)                -> 1
            """);
        Script.promise(43, "(as far as 1,000,000)", """
            link(4, 999999); come(1, 16, 1, 0, 1000000); tight() -> 4
            link(4, 1000000); tight()  -> NONE
            link(4, 999901); come(2, 16, 1, 0, 1000000); tight() -> 4
            link(4, 999998); tight()   -> 4
            link(4, 999999); tight()   -> 4       // 499,999 and 500,000
            """);
    }

    private static void p44Enough() {
        Script.promise(44, "The least CAPACITY by which all LEVELS are as they are", """
            link(0, 13); come(1, 1, 2, 0, 99); enough(0) -> 12
            link(0, 12); enough(0)     -> 12
            link(0, 1); enough(0)      -> 0
            link(0, 0); enough(0)      -> 0
            link(0, 1000000); enough(0) -> 98     // OWN is 49
            come(2, 1, 1, 0, 49); enough(0) -> 147
            link(0, 147); enough(0)    -> 147
            link(0, 146); enough(0)    -> 144
            links(0, 0)                -> 146
            """);
        Script.promise(44, "from BOUND on; 0 without FLOWS", """
            enough(0..9)               -> 0*10
            link(0, 1000000); enough(0) -> 0
            come(1, 1, 9, 8, 8); enough(0) -> 8   // LEVEL 0, but BOUND is 8
            change(0, 2, 9); enough(0) -> 9
            link(0, 8); enough(0)      -> 8
            """);
        Script.promise(44, "of a LINK that bounds none of its FLOWS", THREE + """
            link(2, 20); route(0, 7); enough(2) -> 20
            link(2, 21); enough(2)     -> 20
            link(2, 19); enough(2)     -> 19
            """);
        Script.promise(44, "NONE: others", """
            enough(-1 10 32 MIN MAX)   -> NONE*5
            refused                    -> 0*5
            """);
    }

    private static void p45Storm() {
        Script.promise(45, "SEED (0 .. 999,999), n (1 .. 40). NONE: others", """
            storm(0, 1, 0..2)          -> 1 0 0
            storm(0, 40, 0..2)         -> 25 0 1
            storm(999999, 40, 0..2)    -> 16 0 8
            storm(-1 1000000 MIN MAX, 1, 0) -> NONE*4
            storm(1, 0 41 -1 MIN MAX, 0) -> NONE*5
            storm(1, 1, -1 3 MIN MAX)  -> NONE*4
            refused                    -> 0*5
            count(0)                   -> 0
            link(0, 500); link(1, 537); link(2, 574); link(3, 611); link(4, 648)
            link(5, 685); link(6, 722); link(7, 759); link(8, 796); link(9, 833)
            storm(0, 40, 0..2)         -> 19 1 1
            storm(999999, 40, 0..2)    -> 14 3 8
            """);
        Script.promise(45, "no DRAW of who goes, where there are no FLOWS", """
            storm(52, 1, 0..2)         -> 1 0 0   // 69,701: one would go
            storm(52, 2, 2)            -> 1       // 892,320: one comes
            """);
        Script.promise(45, "four DRAWS, if come() would not let it, too", FULL + """
            storm(1, 1..2, 2)          -> 20 19   // no room; then 458,433: one goes
            go(3); storm(1, 1..2, 2)   -> 20 19
            new
            come(845447, 1, 1, 0, 9); storm(1, 1..2, 2) -> 1 0   // its NAME is another one's
            """);
        Script.promise(45, "NAME is it modulo 1,000,000", """
            come(0, 1, 1, 0, 9); storm(638961, 1, 2) -> 2
            come(1, 1, 1, 0, 9); storm(638961, 1, 2) -> 2    // 1,000,001
            go(0); storm(638961, 1, 2) -> 1
            """);
        for (int l = 0; l < 10; l++) {
            Script.promise(45, "LINKS 1 more than it modulo 1,023: just 0, just 9, all", """
                link(0..9, 1000000); link(L, 20); come(1, B, 1, 0, 20); letter(0); hold(0, true)
                storm(1042, 1, 1)          -> 1 by LINK 0
                storm(14617, 1, 1)         -> 1 by LINK 9
                storm(4890, 1, 1)          -> 1
                """.replace("L,", l + ",").replace("B,", (1 << l) + ",")
                    .replace("1 by LINK 0", l == 0 ? "1" : "0").replace("1 by LINK 9", l == 9 ? "1" : "0"));
        }
        Script.promise(45, "WEIGHT 1 more than it modulo 9: 9, 1", """
            link(0..9, 1000000); link(0, 10); come(1, 1, 1, 0, 8); letter(0); hold(0, true)
            storm(93, 1, 1)            -> 1       // 1 and 9 are 10, and 8 are booked
            link(0, 9); storm(93, 1, 1) -> 0      // by 9 it can have nothing
            change(0, 2, 2); letter(0); link(0, 2)
            storm(33, 1, 1)            -> 1       // 1 and 1 are 2; by 2 it could have nothing
            """);
        Script.promise(45, "WANT it modulo 1,000: 0, 999", """
            link(0..9, 1000000); come(1, 1, 1, 0, 500); letter(0); hold(0, true); link(0, 500)
            storm(4385, 1, 1)          -> 0       // it wants nothing
            link(0, 1495); storm(2287, 1, 1) -> 1 // 500 and 6 times 166
            link(0, 1496); storm(2287, 1, 1) -> 0
            """);
        int[] seedOf = {8, 4, 0};
        for (int who = 0; who < 3; who++) {
            for (int over = 0; over < 3; over++) {
                Script.promise(45, "of the FLOWS, by their numbers, that of a DRAW modulo how many there are", """
                    link(0..3, 10); come(1, 1, 1, 0, 10); come(2, 8, 1, 0, 10); come(3, 2, 1, 0, 10); come(4, 4, 1, 0, 10)
                    letter(0..3); go(1); hold(0 2 3, true); link(L, 9); storm(SEED, 1, 2) -> 2
                    storm(SEED, 1, 1) -> DUE
                    """.replace("L,", over + ",").replace("SEED", "" + seedOf[who])
                        .replace("DUE", who == over ? "0" : "1"));
            }
        }
        Script.promise(45, "the last of twenty", FULL + """
            rounds(30); hold(0..19, true); storm(228, 1, 0..2) -> 1 0 19
            """);
        Script.promise(45, "HELD ones and LETTERS to be LOST are as they are", """
            link(0, 9); come(1, 1, 1, 0, 9); rounds(30); link(0, 8); lose(0, 2)
            storm(6, 1..4, 1)          -> 1 2 2 2     // none comes or goes; two are LOST
            storm(6, 1..4, 0)          -> 1 2 2 3
            count(13)                  -> 2
            hold(0, true); storm(6, 4, 0..1) -> 4 4
            """);
        Script.promise(45, "a number that is given again is not HELD any more", """
            link(0, 9); come(1, 1, 1, 0, 9); hold(0, true)
            storm(8, 1..2, 2)          -> 0 1
            storm(8, 1..2, 0)          -> 1 1     // what came has a LETTER in its ROUND
            count(1)                   -> 1
            """);
    }

    private static void p46Count() {
        Script.promise(46, "0 FLOWS, 1 HELD up ones, 2 LINKS with FLOWS, 5 MARKS, 12 UNDER WAY, 13 to be LOST: all there can be", """
            link(0..9, 1000000); come(0..19, 1023, 1, 0, 1); hold(0..19, true); letter(0..19); hop(0..19); lose(0..9, 99)
            count(0..13)               -> 20 20 10 40 0 200 0*5 0 20 990
            go(0..19); count(0..13)    -> 0 0 0 40 0 0 0*5 0 0 990
            """);
        Script.promise(46, "3 LETTERS so far (LOST ones, those by hop() when they begin, too), 4 ROUNDS, 11 LOST", """
            link(0..1, 9); come(1, 3, 1, 0, 8)
            hop(0); count(3)           -> 1
            hop(0); hop(0); hop(0); count(3) -> 1
            lose(0, 1); letter(0); count(3) -> 2
            count(11)                  -> 1
            lose(1, 1); hop(0); hop(0); count(3) -> 3
            count(11)                  -> 2
            lose(0, 1); rounds(1); count(3..4) -> 4 1
            count(11)                  -> 3
            hop(5); letter(5); rounds(0); count(3..4) -> 4 1
            """);
        Script.promise(46, "6 .. 10 how many calls were REFUSED by 0 .. 4", """
            link(0, -1); count(6..10)  -> 1 0 0 0 0
            go(0); count(6..10)        -> 1 1 0 0 0
            link(0, 0); count(6..10)   -> 1 1 1 0 0
            come(0..19, 1, 1, 0, 1); come(20, 1, 1, 0, 1); count(6..10) -> 1 1 1 1 0
            change(0, 1, 1); count(6..10) -> 1 1 1 1 1
            """);
        Script.promise(46, "NONE: others", """
            count(-1 14 MIN MAX)       -> NONE*4
            count(0..13)               -> 0*14
            """);
    }

    public static void main(String[] args) {
        p35Would();
        p36Better();
        p37Spares();
        p38WeightFor();
        p39RoomFor();
        p40Touched();
        p41Without();
        p42Wider();
        p43Tight();
        p44Enough();
        p45Storm();
        p46Count();
        Script.allHadRuns(35, 46);
        Due.end();
    }
}

/** Boundary cases of promises 1 to 14: each run stands under the sentence that it is about. */
public final class EdgesOfChangesTest {
    private EdgesOfChangesTest() {
    }

    private static void p01NewObject() {
        Script.promise(1, "No FLOWS, CAPACITIES 0", """
            links(0..9, 0)             -> 0*10
            links(0..9, 1)             -> 0*10
            links(0..9, 2)             -> 0*10
            flow(0..19, 0)             -> throws*20
            count(0..13)               -> 0*14
            named(0 999999)            -> NONE*2
            over()                     -> 0
            off()                      -> 0
            water(0..3)                -> 0 NONE NONE 0
            advertised(0..9)           -> 1000000*10
            again(0..1)                -> false*2
            """);
        Script.promise(1, "A new object has nothing of another one", """
            link(0, 9); come(1, 1, 1, 0, 8); rounds(3); lose(0, 3); keep(0); go(5)
            new
            links(0, 0..2)             -> 0*3
            count(0..13)               -> 0*14
            again(0)                   -> false
            """);
    }

    private static void p02Link() {
        Script.promise(2, "CAPACITY of a LINK: what it was", """
            link(0, 1000000)           -> 0
            link(0, 0)                 -> 1000000
            link(9, 1)                 -> 0
            link(9, 2)                 -> 1
            links(0 9, 0)              -> 0 2
            """);
        Script.promise(2, "NONE: 0", """
            link(-1 10 32 MIN MAX, 5)  -> NONE*5
            link(5, -1 1000001 MIN MAX) -> NONE*4
            refused                    -> 9 0 0 0 0
            links(0..9, 0)             -> 0*10
            """);
        Script.promise(2, "NONE: 2", """
            link(0, 0)                 -> NONE
            link(0, 7); link(0, 7)     -> NONE
            link(9, 1000000); link(9, 1000000) -> NONE
            refused                    -> 0 0 3 0 0
            links(0 9, 0)              -> 7 1000000
            """);
        Script.promise(2, "NONE: 4, a BOUND would be above a CAPACITY", """
            link(2, 20); come(1, 4, 1, 7, 9); come(2, 4, 1, 6, 9)
            link(2, 12)                -> NONE
            link(2, 0)                 -> NONE
            refused                    -> 0 0 0 0 2
            links(2, 0)                -> 20
            link(2, 13)                -> 20      // just BOUND
            link(2, 12)                -> NONE
            go(0); link(2, 12)         -> 13
            go(1); link(2, 0)          -> 12
            """);
        Script.promise(2, "what LINKS ADVERTISE and FAIR go by it at once", """
            link(0, 8); come(1, 1, 1, 0, 9); advertised(0) -> 8
            fair(0, 0)                 -> 8
            link(0, 6); advertised(0)  -> 6
            fair(0, 0)                 -> 6
            link(0, 5); link(0, 1000001); fair(0, 0) -> 5
            """);
    }

    private static void p03Come() {
        Script.promise(3, "A FLOW comes: its number", """
            come(0, 1, 1, 0, 0)        -> 0
            come(999999, 1023, 9, 0, 1000000) -> 1
            flow(0, 0..8)              -> 0 1 1 0 0 0 0 0 0
            flow(1, 0..8)              -> 999999 1023 9 0 1000000 111111 0 0 0
            """);
        Script.promise(3, "NONE: 0", """
            come(-1 1000000 MIN MAX, 1, 1, 0, 0)        -> NONE*4
            come(1, -1 0 1024 1025 2047 MIN MAX, 1, 0, 0) -> NONE*7
            come(1, 1, -1 0 10 MIN MAX, 0, 0)           -> NONE*5
            come(1, 1, 1, -1 1000001 MIN MAX, 1000000)  -> NONE*4
            come(1, 1, 1, 0, -1 1000001 MIN MAX)        -> NONE*4
            refused                                     -> 24 0 0 0 0
            count(0)                                    -> 0
            """);
        Script.promise(3, "also WANT below LEAST", """
            link(0, 1000000)
            come(1, 1, 1, 1, 0)        -> NONE
            come(1, 1, 1, 1000000, 999999) -> NONE
            refused                    -> 2 0 0 0 0
            come(1, 1, 1, 1000000, 1000000) -> 0
            come(2, 1, 1, 0, 0)        -> 1
            """);
        Script.promise(3, "NONE: 2 (the NAME is another one's)", """
            come(5, 1, 1, 0, 0); come(5, 2, 2, 0, 5) -> NONE
            refused                    -> 0 0 1 0 0
            flow(0, 0..4)              -> 5 1 1 0 0
            come(6, 2, 2, 0, 5)        -> 1
            go(0); come(5, 1, 1, 0, 0) -> 0
            """);
        Script.promise(3, "NONE: 3", """
            come(0..18, 1, 1, 0, 0)    -> 0..18
            come(19, 1, 1, 0, 0)       -> 19      // the last one that there is room for
            come(20, 1, 1, 0, 0)       -> NONE
            refused                    -> 0 0 0 1 0
            named(20)                  -> NONE
            go(13); come(20, 1, 1, 0, 0) -> 13
            come(13, 1, 1, 0, 0)       -> NONE
            refused                    -> 0 0 0 2 0
            """);
        Script.promise(3, "NONE: 4", """
            link(0, 10); link(1, 3)
            come(1, 1, 1, 11, 20)      -> NONE
            come(1, 3, 1, 4, 20)       -> NONE    // LINK 1 has no room for it
            come(1, 5, 1, 1, 20)       -> NONE    // LINK 2 has none at all
            refused                    -> 0 0 0 0 3
            links(0..2, 1)             -> 0*3
            come(1, 3, 1, 3, 20)       -> 0
            come(2, 1, 1, 7, 20)       -> 1
            come(3, 1, 1, 1, 20)       -> NONE
            come(3, 1, 1, 0, 20)       -> 2
            links(0..2, 1)             -> 10 3 0
            """);
    }

    private static void p04Go() {
        Script.promise(4, "A FLOW goes: how many are left", """
            come(0..19, 1, 1, 0, 0); go(19)    -> 19
            go(0..18)                  -> 18 17 16 15 14 13 12 11 10 9 8 7 6 5 4 3 2 1 0
            go(0)                      -> NONE
            """);
        Script.promise(4, "NONE: 1", """
            go(0)                      -> NONE
            come(1, 1, 1, 0, 0); go(1) -> NONE
            go(-1 20 32 -32 MIN MAX)   -> NONE*6
            refused                    -> 0 8 0 0 0
            go(0)                      -> 0
            go(0)                      -> NONE
            refused                    -> 0 9 0 0 0
            """);
        Script.promise(4, "the NAME is free then, what is HELD and UNDER WAY of it is gone", """
            link(0..1, 9); come(1 2, 3, 1, 2, 8); hold(0..1, true); hop(0..1); lose(0, 5)
            go(0)                      -> 1
            named(1)                   -> NONE
            count(1)                   -> 1
            count(12)                  -> 1
            count(13)                  -> 5       // what is to be LOST is the LINK's
            links(0..1, 1)             -> 2 2
            links(0..1, 2)             -> 2 2
            come(1, 3, 1, 0, 8)        -> 0
            """);
        Script.promise(4, "a number that is given again begins anew", """
            link(0..1, 9); come(1, 3, 2, 2, 8); hold(0, true); letter(0); hop(0); go(0)
            come(2, 1, 1, 0, 5)        -> 0
            flow(0, 0..8)              -> 2 1 1 0 5 5 0 0 0
            known(0, 0, 0..1)          -> 1000000*2
            known(0, 1, 0)             -> NONE
            hop(0)                     -> 0
            route(0, 3)                -> 1
            known(0, 1, 0..1)          -> 1000000*2
            """);
    }

    private static void p05Change() {
        Script.promise(5, "WEIGHT (what 0), LEAST (1), WANT (2) of a FLOW: what it was", """
            link(0, 1000000); come(1, 1, 1, 0, 0)
            change(0, 0, 9)            -> 1
            change(0, 0, 1)            -> 9
            change(0, 2, 1000000)      -> 0
            change(0, 1, 1000000)      -> 0
            change(0, 1, 0)            -> 1000000
            change(0, 2, 0)            -> 1000000
            flow(0, 2..4)              -> 1 0 0
            """);
        Script.promise(5, "NONE: 0", """
            link(0, 1000000); come(1, 1, 5, 5, 5)
            change(0, -1 3 MIN MAX, 5) -> NONE*4
            change(0, 0, 0 10 -1 MIN MAX) -> NONE*5
            change(0, 1, -1 1000001 MIN MAX) -> NONE*4
            change(0, 2, -1 1000001 MIN MAX) -> NONE*4
            refused                    -> 17 0 0 0 0
            flow(0, 2..4)              -> 5 5 5
            """);
        Script.promise(5, "NONE: 0 (WANT below LEAST, too)", """
            link(0, 100); come(1, 1, 1, 5, 9)
            change(0, 2, 4)            -> NONE
            change(0, 1, 10)           -> NONE
            refused                    -> 2 0 0 0 0
            change(0, 1, 9)            -> 5       // LEAST may be WANT
            change(0, 1, 5); change(0, 2, 5) -> 9
            flow(0, 3..4)              -> 5 5
            """);
        Script.promise(5, "NONE: 1", """
            change(0, 0..2, 1)         -> NONE*3
            come(1, 1, 1, 0, 0); change(1 -1 20 32 MIN MAX, 0, 1) -> NONE*6
            refused                    -> 0 9 0 0 0
            """);
        Script.promise(5, "NONE: 2", """
            link(0, 100); come(1, 1, 3, 4, 5)
            change(0, 0, 3)            -> NONE
            change(0, 1, 4)            -> NONE
            change(0, 2, 5)            -> NONE
            refused                    -> 0 0 3 0 0
            """);
        Script.promise(5, "NONE: 4", """
            link(0, 10); link(1, 6); come(1, 3, 1, 0, 50); come(2, 1, 1, 3, 50)
            change(0, 1, 7)            -> NONE    // LINK 1
            change(0, 1, 6)            -> 0
            change(1, 1, 5)            -> NONE    // LINK 0
            change(1, 1, 4)            -> 3
            links(0..1, 1)             -> 10 6
            refused                    -> 0 0 0 0 2
            change(1, 1, 3)            -> 4
            change(0, 0, 9)            -> 1       // WEIGHT and WANT are not bound so
            change(0, 2, 1000000)      -> 50
            """);
    }

    private static void p06Hold() {
        Script.promise(6, "A FLOW is HELD up (or no more): how many are", """
            come(0..19, 1, 1, 0, 0); hold(0..19, true) -> 1..20
            hold(0..19, false)         -> 19 18 17 16 15 14 13 12 11 10 9 8 7 6 5 4 3 2 1 0
            """);
        Script.promise(6, "NONE: 1, 2", """
            hold(0 -1 20 32 MIN MAX, true) -> NONE*6
            hold(0 -1 20 32 MIN MAX, false) -> NONE*6
            refused                    -> 0 12 0 0 0
            come(1, 1, 1, 0, 0); hold(0, false) -> NONE
            hold(0, true)              -> 1
            hold(0, true)              -> NONE
            refused                    -> 0 12 2 0 0
            count(1)                   -> 1
            hold(0, false)             -> 0
            hold(0, false)             -> NONE
            """);
        Script.promise(6, "HELD up ones have no LETTER in a ROUND, but by letter() and hop()", """
            link(0, 9); come(1, 1, 1, 0, 8); hold(0, true); rounds(30) -> 1
            flow(0, 7)                 -> 0
            letter(0)                  -> 8
            hop(0)                     -> 0
            hop(0)                     -> 20
            count(3)                   -> 2
            """);
    }

    private static void p07Route() {
        Script.promise(7, "ROUTED: how many LINKS are new", """
            come(1, 1, 1, 0, 0)
            route(0, 1023)             -> 9
            route(0, 512)              -> 0
            route(0, 511)              -> 9
            route(0, 1023)             -> 1
            route(0, 1)                -> 0
            flow(0, 1)                 -> 1
            """);
        Script.promise(7, "NONE: 0 (as come()), 1, 2", """
            come(1, 3, 1, 0, 0)
            route(0, 0 1024 1027 -1 MIN MAX) -> NONE*6
            refused                    -> 6 0 0 0 0
            route(1 -1 20 32, 1)       -> NONE*4
            refused                    -> 6 4 0 0 0
            route(0, 3)                -> NONE
            refused                    -> 6 4 1 0 0
            flow(0, 1)                 -> 3
            """);
        Script.promise(7, "NONE: 4", """
            link(0, 9); link(1, 5); come(1, 1, 1, 6, 9); come(2, 2, 1, 1, 9)
            route(0, 2)                -> NONE    // 6 and 1 are above 5
            route(0, 3)                -> NONE
            refused                    -> 0 0 0 0 2
            change(0, 1, 5); route(0, 3) -> NONE
            change(0, 1, 4); route(0, 3) -> 1
            links(0..1, 1)             -> 4 5
            link(0, 4)                 -> 9
            route(0, 1)                -> 0       // what it keeps is bound as it is
            """);
        Script.promise(7, "the first and the last LINK, left and taken again", """
            link(0..9, 9); come(1, 513, 1, 0, 8); letter(0); known(0, 0 9, 0) -> 8 8
            route(0, 16)               -> 1
            known(0, 0 4 9, 0)         -> NONE 1000000 NONE
            route(0, 513)              -> 2
            known(0, 0 9, 0)           -> 1000000*2
            advertised(0 4 9)          -> 9 1000000 9
            flow(0, 7)                 -> 8
            """);
        Script.promise(7, "a REFUSED one leaves the LETTER UNDER WAY, AHEAD, BEHIND", """
            link(0..1, 9); come(1, 3, 1, 0, 8); letter(0); hop(0)
            route(0, 3); route(0, 0); route(0, 1024)
            count(12)                  -> 1
            known(0, 0..1, 0)          -> 8 8
            hop(0)                     -> 1
            """);
    }

    private static void p08Lose() {
        Script.promise(8, "The next n (0 .. 99): how many were to be", """
            lose(0, 99)                -> 0
            lose(0, 99)                -> 99      // as it is already is not REFUSED
            lose(0, 0)                 -> 99
            lose(0, 0)                 -> 0
            lose(9, 1)                 -> 0
            count(13)                  -> 1
            lose(9, 5)                 -> 1       // not 6
            count(13)                  -> 5
            refused                    -> 0*5
            lose(0..9, 99); count(13)  -> 990
            """);
        Script.promise(8, "NONE: 0", """
            lose(3, 7); lose(-1 10 32 MIN MAX, 1) -> NONE*5
            lose(3, -1 100 MIN MAX)    -> NONE*4
            refused                    -> 9 0 0 0 0
            lose(3, 7)                 -> 7
            """);
        Script.promise(8, "n LETTERS and no more are LOST; on the way back none is", """
            link(0, 9); come(1, 1, 1, 0, 8); lose(0, 2); letter(0) -> 0
            letter(0)                  -> 0
            letter(0)                  -> 8
            count(11)                  -> 2
            hop(0); lose(0, 1); hop(0) -> 20
            count(13)                  -> 1
            """);
    }

    private static void p09Hop() {
        Script.promise(9, "the LINK; on the way back 20 and the LINK; 50 and the LINK: it is LOST there", """
            link(0 9, 9); come(1, 513, 1, 0, 8)
            hop(0); hop(0)             -> 9
            hop(0)                     -> 29
            hop(0)                     -> 20
            lose(0 9, 1); hop(0)       -> 50
            hop(0)                     -> 0
            hop(0)                     -> 59
            count(11)                  -> 2
            count(3)                   -> 3
            hop(0)                     -> 0       // it was LOST, so one begins
            """);
        Script.promise(9, "NONE: 1", """
            hop(0 -1 20 32 MIN MAX)    -> NONE*6
            refused                    -> 0 6 0 0 0
            count(3)                   -> 0
            count(12)                  -> 0
            """);
        Script.promise(9, "LETTERS UNDER WAY of all FLOWS", """
            link(0, 100); come(0..19, 1, 1, 0, 8); hop(0..19) -> 0*20
            count(12)                  -> 20
            hop(0..19)                 -> 20*20
            count(12)                  -> 0
            count(3)                   -> 20
            """);
    }

    private static void p10Letter() {
        Script.promise(10, "A LETTER of a FLOW (HELD up or not; not the one UNDER WAY): its TOLD", """
            link(0..1, 9); come(1, 3, 1, 0, 8); hold(0, true); letter(0) -> 8
            link(1, 3); hop(0); letter(0) -> 3
            hop(0)                     -> 1       // that one is where it was
            count(3)                   -> 3
            """);
        Script.promise(10, "a LOST one answers TOLD as it stays", """
            link(0, 9); come(1, 1, 1, 0, 8); lose(0, 1); letter(0) -> 0
            letter(0)                  -> 8
            link(0, 5); lose(0, 1); letter(0) -> 8
            letter(0)                  -> 5
            """);
        Script.promise(10, "NONE: 1", """
            letter(0 -1 20 32 MIN MAX) -> NONE*6
            refused                    -> 0 6 0 0 0
            count(3)                   -> 0
            """);
    }

    private static void p11Rounds() {
        Script.promise(11, "n ROUNDS (1 .. 30): how many there were", """
            link(0, 3); link(2, 8); link(3, 7); link(4, 9)
            come(0, 14, 1, 0, 10); come(1, 18, 7, 0, 9); come(2, 17, 5, 0, 5)
            come(3, 27, 7, 0, 3); come(4, 24, 9, 0, 1000)     // these never come to rest
            rounds(1)                  -> 1
            rounds(30)                 -> 30
            count(3..4)                -> 155 31
            rounds(0 31 -1 MIN MAX)    -> NONE*5
            refused                    -> 5 0 0 0 0
            count(3..4)                -> 155 31
            """);
        Script.promise(11, "none behind a QUIET one (the QUIET one, too)", """
            link(0, 9); come(1, 1, 1, 0, 8)
            rounds(1)                  -> 1       // not QUIET
            rounds(2)                  -> 1       // QUIET
            link(0, 5); rounds(2)      -> 2
            link(0, 6); rounds(3)      -> 2
            count(4)                   -> 6
            """);
    }

    private static void p12Forget() {
        Script.promise(12, "All AHEAD, BEHIND, TOLD are as at first: how many FLOWS", """
            forget()                   -> 0
            link(0..1, 9); come(0..19, 3, 1, 0, 8); rounds(2); hold(3, true); hop(2); lose(0, 4)
            forget()                   -> 20
            known(0..19, 0, 0)         -> 1000000*20
            known(0..19, 1, 1)         -> 1000000*20
            flow(0..19, 7)             -> 0*20
            count(12)                  -> 0
            count(1)                   -> 1       // HELD ones, those to be LOST, what was counted stay
            count(13)                  -> 4
            count(3..4)                -> 41 2
            links(0, 0..2)             -> 9 0 1048575
            forget()                   -> 20      // again is not REFUSED
            refused                    -> 0*5
            """);
        Script.promise(12, "what LINKS ADVERTISE is as at first", """
            link(0..1, 9); come(1..2, 3, 1, 0, 2); advertised(0..1) -> 4 4
            rounds(2); advertised(0..1) -> 1000000*2
            forget(); advertised(0..1) -> 4 4
            count(5)                   -> 0
            """);
    }

    private static void p13Keep() {
        Script.promise(13, "All is kept under k (0, 1): true; false: others", """
            keep(0..1)                 -> true true
            keep(-1 2 MIN MAX)         -> false*4
            refused                    -> 0*5
            link(0, 9); again(0)       -> true
            links(0, 0)                -> 0
            link(0, 5); keep(2); again(1) -> true
            links(0, 0)                -> 0
            """);
        Script.promise(13, "kept once more under the same k, and under both", """
            link(0, 1); keep(0); link(0, 2); keep(1); link(0, 3); keep(0); link(0, 4)
            again(1); links(0, 0)      -> 2
            again(0); links(0, 0)      -> 3
            again(1); keep(0); again(0); links(0, 0) -> 2
            """);
        Script.promise(13, "what comes later changes nothing of what is kept", """
            link(0..1, 9); come(1, 3, 1, 0, 8); rounds(2); lose(1, 3); hop(0); hold(0, true); keep(1)
            hop(0); forget(); hold(0, false); lose(1, 0); go(0); come(7, 2, 9, 0, 1); rounds(30); link(0, 100)
            again(1)                   -> true
            flow(0, 0..8)              -> 1 3 1 0 8 8 1 8 8
            known(0, 0..1, 0)          -> 8 8
            count(3..4)                -> 3 2
            count(11..13)              -> 0 1 3
            hop(0)                     -> 51
            """);
    }

    private static void p14Again() {
        Script.promise(14, "It is as it was kept; false: others, nothing kept", """
            again(0..1)                -> false*2
            keep(1); again(0)          -> false
            again(1)                   -> true
            again(-1 2 MIN MAX)        -> false*4
            refused                    -> 0*5
            """);
        Script.promise(14, "false changes nothing", """
            link(0, 9); come(1, 1, 1, 0, 8); letter(0); hop(0)
            again(0..2)                -> false*3
            flow(0, 7)                 -> 8
            count(12)                  -> 1
            links(0, 0)                -> 9
            """);
        Script.promise(14, "again() brings back how many LETTERS, ROUNDS, LOST ones there were, not how many were REFUSED", """
            link(0, 9); come(1, 1, 1, 0, 8); rounds(1); lose(0, 1); letter(0); go(7); keep(0)
            count(3..4)                -> 2 1
            count(11)                  -> 1
            rounds(3); lose(0, 1); letter(0); go(7); link(0, 9)
            count(3..4)                -> 4 2     // the first of the three was QUIET
            again(0)                   -> true
            count(3..4)                -> 2 1
            count(11)                  -> 1
            refused                    -> 0 2 1 0 0
            """);
        Script.promise(14, "a LETTER UNDER WAY is where it was, with what it bore", """
            link(0..2, 9); come(1, 7, 1, 0, 8); hop(0); keep(0); hop(0); hop(0); hop(0); link(2, 3); keep(1)
            hop(0); hop(0); hop(0)     -> 0       // at rest, and one begins
            again(0); hop(0)           -> 1       // forth
            known(0, 0..2, 0)          -> 8 8 1000000
            change(0, 2, 5); again(1); link(2, 4); hop(0) -> 21      // back
            known(0, 1, 1)             -> 1000000
            again(0); hop(0); hop(0); link(2, 3); hop(0); keep(0); link(2, 2); hop(0); again(0); hop(0) -> 21
            known(0, 1, 1)             -> 3       // not 2, which LINK 2 ADVERTISES later
            """);
        Script.promise(14, "the last of twenty: its NAME, its LETTER UNDER WAY and what that bore", """
            link(0, 50); link(9, 3); come(0..18, 1, 1, 0, 9); come(19, 513, 1, 0, 9); hop(19); keep(0)
            hop(19); hop(19)           -> 29
            go(19); come(77, 1, 1, 0, 9); hop(19) -> 0
            again(0); flow(19, 0..1)   -> 19 513
            named(19 77)               -> 19 NONE
            hop(19)                    -> 9
            known(19, 9, 0)            -> 2
            """);
        Script.promise(14, "as often as one likes, from no FLOWS to all and back", """
            keep(0); come(0..19, 1, 1, 0, 1); keep(1); again(0); count(0) -> 0
            named(5)                   -> NONE
            come(77, 1, 1, 0, 1)       -> 0
            again(1); count(0)         -> 20
            named(77)                  -> NONE
            come(77, 1, 1, 0, 1)       -> NONE
            again(0); count(0)         -> 0
            again(1); named(19)        -> 19
            """);
    }

    public static void main(String[] args) {
        p01NewObject();
        p02Link();
        p03Come();
        p04Go();
        p05Change();
        p06Hold();
        p07Route();
        p08Lose();
        p09Hop();
        p10Letter();
        p11Rounds();
        p12Forget();
        p13Keep();
        p14Again();
        Script.allHadRuns(1, 14);
        Due.end();
    }
}

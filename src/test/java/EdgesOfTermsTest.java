/** Boundary cases of the document's 'Terms': each run stands under the sentence that it is about. */
public final class EdgesOfTermsTest {
    private EdgesOfTermsTest() {
    }

    private static void linksAndFlows() {
        Script.terms("LINKS 0 .. 9: CAPACITY 0 .. 1,000,000 (0 at first)", """
            links(0..9, 0)           -> 0*10
            link(0..9, 1000000)      -> 0*10
            link(0..9, 0)            -> 1000000*10
            link(0..9, 1)            -> 0*10
            link(-1 10 MIN MAX, 5)   -> NONE*4
            link(0, -1 1000001 MIN)  -> NONE*3
            links(0..9, 0)           -> 1*10
            refused                  -> 7 0 0 0 0
            """);
        Script.terms("FLOWS 0 .. 19 (as they come; a number of one that is gone is given again, the least first)", """
            come(100..119, 1, 1, 0, 0) -> 0..19
            come(120, 1, 1, 0, 0)      -> NONE
            refused                    -> 0 0 0 1 0
            go(19)                     -> 19
            go(0)                      -> 18
            go(7)                      -> 17
            come(119, 1, 1, 0, 0)      -> 0       // not the number that this NAME had
            come(107, 1, 1, 0, 0)      -> 7
            come(100, 1, 1, 0, 0)      -> 19
            come(120, 1, 1, 0, 0)      -> NONE
            links(0, 2)                -> 1048575
            """);
        Script.terms("a NAME 0 .. 999,999 (of its own)", """
            come(0, 1, 1, 0, 0)        -> 0
            come(999999, 1, 1, 0, 0)   -> 1
            come(-1 1000000, 1, 1, 0, 0) -> NONE*2
            come(0 999999, 1, 1, 0, 0) -> NONE*2
            refused                    -> 2 0 2 0 0
            flow(0..1, 0)              -> 0 999999
            """);
        Script.terms("LINKS as bits (one at least)", """
            come(1, 1, 1, 0, 0)        -> 0
            come(2, 512, 1, 0, 0)      -> 1
            come(3, 1023, 1, 0, 0)     -> 2
            come(4, 0 1024 1025 2048 -1 MIN MAX, 1, 0, 0) -> NONE*7
            refused                    -> 7 0 0 0 0
            links(0..9, 2)             -> 5 4*8 6
            """);
        Script.terms("WEIGHT 1 .. 9", """
            come(1, 1, 1, 0, 0)        -> 0
            come(2, 1, 9, 0, 0)        -> 1
            come(3, 1, 0 10 -1 MIN MAX, 0, 0) -> NONE*5
            refused                    -> 5 0 0 0 0
            """);
        Script.terms("LEAST 0 .. 1,000,000, WANT 0 .. 1,000,000, not below LEAST", """
            link(0..2, 1000000)
            come(1, 1, 1, 0, 0)                  -> 0
            come(2, 1, 1, 0, 1000000)            -> 1
            come(3, 1, 1, 1000000, 1000000)      -> 2
            come(4, 2, 1, 5, 5)                  -> 3
            come(5, 2, 1, 5, 4)                  -> NONE   // WANT below LEAST by 1
            come(5, 4, 1, 1000000, 999999)       -> NONE
            come(5, 4, 1, 1000001, 1000001)      -> NONE
            come(5, 4, 1, 0, 1000001)            -> NONE
            come(5, 4, 1, -1, 0)                 -> NONE
            come(5, 4, 1, -1, -1)                -> NONE
            come(5, 4, 1, 0, -1)                 -> NONE
            come(5, 4, 1, MIN, MAX)              -> NONE
            refused                              -> 8 0 0 0 0
            """);
        Script.terms("A LINK's BOUND: all LEAST of its FLOWS together; it is not above its CAPACITY", """
            link(3, 10)
            come(1, 8, 1, 4, 50); come(2, 8, 1, 6, 50) -> 1
            links(3, 1)                -> 10
            come(3, 8, 1, 1, 50)       -> NONE
            come(3, 8, 1, 0, 50)       -> 2
            change(0, 1, 5)            -> NONE
            link(3, 9)                 -> NONE
            come(4, 4, 1, 0, 50)       -> 3
            change(3, 1, 1)            -> NONE   // LINK 2 has a CAPACITY of 0
            route(1, 4)                -> NONE
            links(2..3, 1)             -> 0 10
            refused                    -> 0 0 0 0 5
            """);
    }

    private static void levels() {
        Script.terms("By a LEVEL a FLOW's RATE is WEIGHT times t, or LEAST if that is more", """
            link(0, 100); come(1, 1, 3, 7, 8)
            letter(0)                  -> 2
            flow(0, 8)                 -> 7      // 6 is less than LEAST
            change(0, 1, 6)            -> 7
            flow(0, 8)                 -> 6      // as much
            change(0, 1, 5)            -> 6
            flow(0, 8)                 -> 6
            change(0, 2, 9); letter(0) -> 3
            flow(0, 8)                 -> 9
            """);
        Script.terms("A LEVEL t (0 .. 1,000,000)", """
            link(0, 1000000); come(1, 1, 1, 0, 1000000)
            letter(0)                  -> 1000000
            fair(0, 0..3)              -> 1000000 1000000 0 0
            change(0, 0, 9)            -> 1
            flow(0, 8)                 -> 9000000   // by WEIGHT as it is now
            booked(0)                  -> 9000000
            """);
        Script.terms("OWN of a FLOW: the greatest LEVEL by which its RATE is not above WANT", """
            link(0, 1000000); come(1, 1, 4, 0, 11)
            flow(0, 5)                 -> 2
            change(0, 2, 12); flow(0, 5) -> 3
            change(0, 2, 4); flow(0, 5)  -> 1
            change(0, 2, 3); flow(0, 5)  -> 0
            change(0, 2, 0); flow(0, 5)  -> 0
            change(0, 2, 1000000); flow(0, 5) -> 250000
            change(0, 0, 9); flow(0, 5)  -> 111111
            change(0, 0, 1); flow(0, 5)  -> 1000000
            change(0, 1, 1000000); flow(0, 5) -> 1000000
            come(2, 2, 9, 0, 0); flow(1, 5) -> 0
            """);
        Script.terms("OWN of a FLOW whose LEAST is its WANT", """
            link(0, 100); come(1, 1, 9, 10, 10)
            flow(0, 5)                 -> 1      // 9 is not above 10, nor is LEAST
            change(0, 1, 9); change(0, 2, 9); flow(0, 5) -> 1
            change(0, 1, 8); change(0, 2, 8); flow(0, 5) -> 0
            """);
    }

    private static void tides() {
        Script.terms("TIDE: the greatest LEVEL by which RATES are not above CAPACITY", """
            come(1, 1, 3, 0, 100); come(2, 1, 2, 0, 100)
            fair(0..1, 1)              -> 0 0     // CAPACITY 0
            link(0, 4); fair(0..1, 1)  -> 0 0
            link(0, 5); fair(0..1, 1)  -> 1 1
            link(0, 14); fair(0..1, 1) -> 2 2
            link(0, 15); fair(0..1, 1) -> 3 3
            """);
        Script.terms("TIDE goes by RATES, of which LEAST is one where it is more", """
            link(0, 12); come(1, 1, 2, 10, 100); come(2, 1, 1, 0, 100)
            fair(0..1, 0)              -> 10 2
            fair(0..1, 1)              -> 2 2
            link(0, 10); fair(0..1, 0) -> 10 0
            link(0, 15); fair(0..1, 0) -> 10 5    // here 2 times 5 is LEAST
            link(0, 17); fair(0..1, 0) -> 10 5
            link(0, 18); fair(0..1, 0) -> 12 6
            """);
        Script.terms("TIDE: RATES by it and those of its FIXED ones together", """
            link(0, 20); come(1, 1, 1, 0, 3); come(2, 1, 2, 0, 100)
            step(0..1, 0)              -> 3 8     // 3 and 2 times 8 of 20
            link(0, 19); step(0..1, 0) -> 3 8
            link(0, 18); step(0..1, 0) -> 3 7
            link(0, 9); step(0..1, 0)  -> 3 NONE  // TIDE is OWN of the first: both in one STEP
            step(0, 1..2)              -> 3 1
            fair(0..1, 2)              -> 0 0
            link(0, 10); step(0..1, 0) -> 3 NONE
            link(0, 11); step(0..1, 0) -> 3 NONE
            link(0, 12); step(0..1, 0) -> 3 4
            fair(0..1, 2)              -> 10 0
            """);
        Script.terms("TIDE is 1,000,000, if all LEVELS are not above", """
            link(0, 1000000); come(1, 1, 1, 0, 1000000); come(2, 1, 1, 0, 0)
            step(0, 0..3)              -> 0 2 0 0
            step(1, 0..3)              -> 1000000 1 1 1000000
            fair(0..1, 2)              -> 0 10
            link(0, 999999); step(1, 0..2) -> 999999 1 1
            link(0, 1000000); change(0, 2, 999999); step(1, 0..2) -> 999999 1 0
            """);
        Script.terms("The least of all TIDES and of OWN of all FLOWS that are not FIXED is the STEP's LEVEL", """
            link(0, 10); come(1, 1, 1, 0, 9)
            fair(0, 0..3)              -> 9 9 10 0     // OWN is less
            change(0, 2, 10); fair(0, 0..3) -> 10 10 0 0   // both alike
            change(0, 2, 11); fair(0, 0..3) -> 10 10 0 0   // TIDE is less
            """);
        Script.terms("a LINK all of whose FLOWS are FIXED has no TIDE any more", """
            link(0, 5); link(1, 50); come(1, 1, 1, 0, 5); come(2, 2, 1, 0, 100)
            step(0, 0..2)              -> 5 1 1
            step(1, 0..2)              -> 50 2 2
            water(0)                   -> 2
            """);
        Script.terms("WITNESS: the first LINK of its that has that TIDE in that STEP; 10, if there is none", """
            link(3 5 9, 6); come(1, 552, 1, 0, 7)
            fair(0, 2)                 -> 3       // LINKS 3, 5, 9
            link(3, 7); fair(0, 2)     -> 5
            link(5, 7); fair(0, 2)     -> 9
            link(9, 7); fair(0, 2)     -> 3       // all of them, and OWN
            link(3 5 9, 8); fair(0, 2) -> 10
            """);
        Script.terms("a WITNESS goes by the TIDES of its own STEP", """
            link(0, 10); link(1, 5); come(1, 3, 1, 0, 100); come(2, 1, 1, 0, 3)
            step(0, 0..2)              -> 3 2 0   // TIDE of LINK 0 is 5 here,
            step(1, 0..2)              -> 5 1 2   // and 7 here
            fair(0, 2)                 -> 1
            """);
        Script.terms("FIXED ones have their RATE by that LEVEL", """
            link(0, 30); link(1, 6); come(1, 3, 2, 6, 100); come(2, 1, 1, 0, 100)
            fair(0, 0..1)              -> 6 3
            fair(1, 0..1)              -> 24 24
            link(1, 7); fair(0, 0..1)  -> 6 3     // half of the 7th is none
            link(1, 8); fair(0, 0..1)  -> 8 4
            fair(1, 0..1)              -> 22 22
            """);
    }

    private static void advertising() {
        Script.terms("AHEAD (1,000,000 at first) and BEHIND (likewise), TOLD (0 at first)", """
            link(0 9, 100); come(1, 513, 1, 5, 50)
            known(0, 0, 0..2)          -> 1000000 1000000 0
            known(0, 9, 0..2)          -> 1000000 1000000 0
            flow(0, 7..8)              -> 0 5
            """);
        Script.terms("ELSEWHERE is the less of AHEAD and BEHIND", """
            link(0, 10); link(1, 4); come(1, 3, 1, 0, 6); letter(0)
            known(0, 0, 0..2)          -> 6 4 1   // BEHIND is less: 4 of 10, so it ADVERTISES all
            known(0, 1, 0..2)          -> 6 1000000 0
            advertised(0..1)           -> 1000000 4
            link(1, 9); letter(0)      -> 6
            known(0, 0, 0..2)          -> 6 1000000 1
            """);
        Script.terms("ADVERTISES: each by the less of t and its ELSEWHERE, not above CAPACITY together", """
            link(0, 10); link(1, 4); come(1, 3, 1, 0, 100); come(2, 1, 1, 0, 6); letter(0..1)
            known(0, 0, 1)             -> 4
            known(1, 0, 0)             -> 6
            advertised(0)              -> 1000000 // 4 and 6 are just 10
            link(0, 9); advertised(0)  -> 5       // 4 and 5
            link(0, 8); advertised(0)  -> 4
            link(0, 7); advertised(0)  -> 3
            link(0, 0); advertised(0)  -> 0
            """);
        Script.terms("ADVERTISES goes by RATES, of which LEAST is one where it is more", """
            link(0, 10); come(1, 1, 1, 10, 20); come(2, 1, 1, 0, 20)
            advertised(0)              -> 0       // BOUND is CAPACITY
            link(0, 11); advertised(0) -> 1
            link(0, 20); advertised(0) -> 10
            link(0, 21); advertised(0) -> 10
            link(0, 22); advertised(0) -> 11
            """);
        Script.terms("a FLOW with LEAST above what ELSEWHERE would give it has LEAST", """
            link(0, 20); link(1, 6); come(1, 3, 2, 5, 50); come(2, 1, 1, 0, 50); letter(0)
            known(0, 0, 1)             -> 3
            advertised(0)              -> 14      // 6 and 14
            change(0, 0, 1)            -> 2
            advertised(0)              -> 15      // by 3 it has LEAST, 5
            """);
        Script.terms("MARKED, if ELSEWHERE is less than what that ADVERTISES", """
            link(0, 90); link(1, 4); come(1, 3, 1, 0, 50); come(2 3, 1, 1, 0, 50); letter(0)
            link(0, 12); advertised(0) -> 4
            known(0, 0, 1..2)          -> 4 0     // as much is no MARK
            link(0, 13); known(0, 0, 2) -> 0
            link(0, 14); known(0, 0, 2) -> 1      // 5 is more than 4
            count(5)                   -> 1
            """);
        Script.terms("A LINK without FLOWS ADVERTISES 1,000,000", """
            advertised(0..9)           -> 1000000*10
            link(0, 7); come(1, 1, 1, 0, 9); advertised(0) -> 7
            go(0); advertised(0)       -> 1000000
            """);
    }

    private static void letters() {
        Script.terms("A LETTER: u is OWN; LINK by LINK, the least number first; Back, the greatest number first", """
            link(0, 30); link(4, 20); link(9, 10); come(1, 529, 1, 0, 25)
            letter(0)                  -> 10
            known(0, 0, 0..1)          -> 25 10
            known(0, 4, 0..1)          -> 25 10
            known(0, 9, 0..1)          -> 20 1000000
            """);
        Script.terms("u is the less of u and what it ADVERTISES then: as much, one less, one more", """
            link(0, 10); come(1, 1, 1, 0, 10)
            letter(0)                  -> 10
            change(0, 2, 9); letter(0) -> 9
            change(0, 2, 11); letter(0) -> 10
            link(0, 0); letter(0)      -> 0
            change(0, 2, 0); link(0, 5); letter(0) -> 0
            """);
        Script.terms("A LETTER may be LOST: AHEAD is told there still, but it goes no further (TOLD, BEHIND stay)", """
            link(0, 30); link(1, 20); link(2, 10); come(1, 7, 1, 0, 25); letter(0)
            link(0, 18); link(1, 8); link(2, 5); change(0, 2, 16); lose(1, 1)
            letter(0)                  -> 10      // TOLD stays
            known(0, 0..2, 0)          -> 16 16 20
            known(0, 0..2, 1)          -> 10 10 1000000
            count(11)                  -> 1
            count(13)                  -> 0
            letter(0)                  -> 5
            """);
        Script.terms("LOST at the first, at the last and at a single LINK", """
            link(0..1, 8); come(1, 3, 1, 0, 9); come(2, 2, 1, 0, 6); lose(0, 1)
            letter(0)                  -> 0
            known(0, 0..1, 0)          -> 9 1000000
            lose(1, 2); letter(0)      -> 0
            known(0, 0..1, 0)          -> 9 8
            known(0, 0..1, 1)          -> 1000000*2
            letter(1)                  -> 0
            known(1, 1, 0..1)          -> 6 1000000
            count(11)                  -> 3
            """);
        Script.terms("A ROUND: a LETTER of each FLOW, the least number first, but of those that are HELD up", """
            link(0, 12); come(1..3, 1, 1, 0, 2); go(0); come(4, 1, 1, 0, 100); hold(1, true)
            rounds(1)                  -> 1
            count(3)                   -> 2
            flow(0, 7)                 -> 4       // ahead of 2, which has told nothing yet
            flow(1, 7)                 -> 0
            flow(2, 7)                 -> 2
            known(1, 0, 0)             -> 1000000
            """);
        Script.terms("QUIET, if no AHEAD, BEHIND, TOLD is another one by it", """
            link(0, 12); come(1, 1, 1, 0, 100)
            rounds(30)                 -> 2
            rounds(30)                 -> 1
            lose(0, 1); rounds(30)     -> 1       // LOST, but nothing is another one
            count(11)                  -> 1
            lose(0, 1); change(0, 2, 99); rounds(30) -> 2   // AHEAD is, though it is LOST
            """);
    }

    private static void underWay() {
        Script.terms("UNDER WAY, one of each FLOW at most", """
            link(0..2, 9); come(1, 7, 1, 0, 8); come(2, 7, 1, 0, 8)
            hop(0)                     -> 0
            count(12)                  -> 1
            hop(0)                     -> 1
            count(12)                  -> 1
            count(3)                   -> 1
            hop(1)                     -> 0
            count(12)                  -> 2
            count(3)                   -> 2
            letter(0); rounds(1)       -> 1
            count(12)                  -> 2       // theirs are others
            """);
        Script.terms("what it does at a LINK it does when it comes there, with u, v as they came with it", """
            link(0..1, 9); come(1, 3, 1, 0, 8); hop(0); link(1, 3); change(0, 2, 2); link(0, 1)
            hop(0)                     -> 1
            known(0, 1, 0)             -> 8       // u as it came
            flow(0, 7)                 -> 3       // what LINK 1 ADVERTISES then
            link(1, 5); hop(0)         -> 21
            link(1, 7); hop(0)         -> 20
            known(0, 0, 1)             -> 5       // v as it came
            """);
        Script.terms("behind the last LINK forth TOLD is u, and the next LINK is the last one again, on the way back", """
            link(0, 9); link(9, 4); come(1, 513, 1, 0, 8)
            hop(0)                     -> 0
            flow(0, 7)                 -> 0
            hop(0)                     -> 9
            flow(0, 7)                 -> 4
            hop(0)                     -> 29
            known(0, 9, 1)             -> 1000000
            count(12)                  -> 1
            hop(0)                     -> 20
            count(12)                  -> 0       // behind that back it is not UNDER WAY any more
            hop(0)                     -> 0
            count(3)                   -> 2
            """);
        Script.terms("with a single LINK it is there, then goes on as told", """
            link(9, 4); come(1, 512, 1, 0, 8)
            hop(0)                     -> 9
            flow(0, 7)                 -> 4
            count(12)                  -> 1
            hop(0)                     -> 29
            count(12)                  -> 0
            hop(0)                     -> 9
            """);
        Script.terms("behind the last one forth it bears 1,000,000", """
            link(0, 9); come(1, 1, 1, 0, 8); come(2, 1, 1, 0, 8); hop(0); letter(1)
            known(1, 0, 1)             -> 1000000
            hop(0); known(0, 0, 1)     -> 1000000
            """);
        Script.terms("It is gone if the FLOW goes or is ROUTED, and by forget()", """
            link(0..2, 9); come(1..3, 3, 1, 0, 8); hop(0..2)
            count(12)                  -> 3
            route(0, 1); count(12)     -> 2
            go(1); count(12)           -> 1
            forget(); count(12)        -> 0
            hop(0)                     -> 0
            hop(0)                     -> 20
            hop(2)                     -> 0
            count(11)                  -> 0       // none of them is LOST
            """);
        Script.terms("A letter that hop() begins bears OWN as it is then (WANT, WEIGHT told later do not change that)", """
            link(0..1, 90); come(1, 3, 1, 0, 8); hop(0); change(0, 2, 80); change(0, 0, 2); hop(0)
            known(0, 0..1, 0)          -> 8 8
            flow(0, 7)                 -> 8
            hop(0); hop(0); hop(0)     -> 0
            known(0, 0, 0)             -> 40
            """);
        Script.terms("What is LOST at a LINK counts down there, behind AHEAD (by letter(), ROUNDS, hop() alike)", """
            link(0, 9); come(1, 1, 1, 0, 8); lose(0, 3); letter(0)
            count(13)                  -> 2
            known(0, 0, 0)             -> 8
            forget(); rounds(1); count(13) -> 1
            known(0, 0, 0)             -> 8
            forget(); hop(0)           -> 50
            count(13)                  -> 0
            known(0, 0, 0)             -> 8
            count(11)                  -> 3
            hop(0)                     -> 0
            """);
    }

    private static void routedAndBooked() {
        Script.terms("ROUTED: those that it has not any more know nothing of it, new ones 1,000,000; others, TOLD stay", """
            link(0..3, 9); link(1, 4); come(1, 3, 1, 0, 8); letter(0)
            known(0, 0..1, 0)          -> 8 8
            known(0, 0..1, 1)          -> 4 1000000
            route(0, 9)                -> 1
            known(0, 0..3, 0)          -> 8 NONE*2 1000000
            known(0, 0..3, 1)          -> 4 NONE*2 1000000
            flow(0, 7)                 -> 4
            route(0, 11)               -> 1
            known(0, 1, 0..1)          -> 1000000*2
            """);
        Script.terms("OVERBOOKED, if BOOKED is above CAPACITY", """
            link(0, 12); come(1..3, 1, 1, 0, 4); letter(0..2)
            booked(0)                  -> 12
            over()                     -> 0       // as much is not above
            link(0, 11); over()        -> 1
            link(0, 12); over()        -> 0
            change(0, 1, 4); over()    -> 0
            change(0, 2, 5); change(0, 1, 5); booked(0) -> 13
            over()                     -> 1
            """);
        Script.terms("A FLOW that comes has a TOLD of 0 (AHEAD, BEHIND 1,000,000); one that goes is known by no LINK", """
            link(0..1, 9); come(1, 3, 1, 0, 8); letter(0); hold(0, true); hop(0)
            go(0)                      -> 0
            known(0, 0..1, 0)          -> NONE*2
            links(0..1, 2)             -> 0*2
            booked(0..1)               -> 0*2
            come(2, 3, 1, 0, 8)        -> 0
            flow(0, 6..8)              -> 0*3
            known(0, 0..1, 0)          -> 1000000*2
            known(0, 0..1, 1)          -> 1000000*2
            count(12)                  -> 0
            """);
    }

    private static void reasons() {
        Script.terms("REFUSED: The first of these in that order: 0 ahead of 2, 3, 4", """
            link(0, 5); come(100..119, 1, 1, 0, 9)
            come(100, 1, 1, 9, 8); refused   -> 1 0 0 0 0   // taken, no room, BOUND: but WANT below LEAST
            come(100, 1024, 1, 6, 6); refused -> 2 0 0 0 0
            come(100, 1, 1, 6, 6); refused   -> 2 0 1 0 0   // 2 ahead of 3, 4
            come(5, 1, 1, 6, 6); refused     -> 2 0 1 1 0   // 3 ahead of 4
            go(0); come(101, 1, 1, 6, 6); refused -> 2 0 2 1 0
            come(5, 1, 1, 6, 6); refused     -> 2 0 2 1 1
            """);
        Script.terms("REFUSED: 0 ahead of 1", """
            change(0, 0, 10); refused  -> 1 0 0 0 0
            change(0, 3, 1); refused   -> 2 0 0 0 0
            change(0, 0, 1); refused   -> 2 1 0 0 0
            route(0, 0); refused       -> 3 1 0 0 0
            route(0, 1); refused       -> 3 2 0 0 0
            """);
        Script.terms("REFUSED: 1 ahead of 2", """
            hold(0, false); refused    -> 0 1 0 0 0
            come(1, 1, 1, 0, 0); hold(0, false); refused -> 0 1 1 0 0
            """);
        Script.terms("change(): v out of bounds first, then no such FLOW, then a WANT below LEAST, then what else", """
            link(0, 10); come(1, 1, 1, 5, 8)
            change(1, 1, 1000001); refused -> 1 0 0 0 0
            change(1, 2, -1); refused      -> 2 0 0 0 0
            change(1, 2, 4); refused       -> 2 1 0 0 0
            change(0, 2, 4); refused       -> 3 1 0 0 0
            change(0, 1, 11); refused      -> 4 1 0 0 0   // above WANT and above CAPACITY
            change(0, 1, 5); refused       -> 4 1 1 0 0
            change(0, 2, 20); change(0, 1, 11); refused -> 4 1 1 0 1
            flow(0, 2..4)                  -> 1 5 20
            """);
        Script.terms("link(): 0 ahead of 4", """
            link(0, 10); come(1, 1, 1, 5, 8)
            link(0, -1); refused       -> 1 0 0 0 0
            link(0, 4); refused        -> 1 0 0 0 1
            link(0, 10); refused       -> 1 0 1 0 1
            """);
        Script.terms("Only REFUSED calls count as such; what answers NONE, false or throws elsewhere does not", """
            links(10, 0); used(0, 3); water(4); step(0, 0); ranked(0); fullest(0); even(0); advertised(10)
            flow(0, 0); fair(0, 0); proof(0, 0); named(1); pass(10, 0); known(0, 0, 0); booked(10)
            settling(3); swings(0, 1, 0); peak(10, 1); would(0, 1, 0, 0); better(0, 1); spares(0, 0)
            weightFor(0, 0); roomFor(0); touched(0); without(0, 1); wider(0, 1, 0); tight(); enough(10)
            storm(-1, 1, 0); count(14); keep(2); again(0); again(2)
            refused                    -> 0*5
            """);
    }

    private static void wholeLife() {
        Script.terms("An object is used for at most 512 calls: the last of them answers as all do", """
            link(0, 9); come(1, 1, 1, 0, 8); lose(0..4, 0..99); rounds(1); hop(0); hold(0, true); go(1); keep(0)
            letter(0)                  -> 0       // the 508th; LOST
            count(3)                   -> 3
            count(13)                  -> 492
            again(0)                   -> true
            count(13)                  -> 493     // the 512th
            """);
    }

    private static void inFull() {
        Script.terms("Without FLOWS, or with all HELD, a ROUND is QUIET: rounds() tells 1", """
            rounds(1 30)               -> 1 1
            count(4)                   -> 2
            link(0, 9); come(1..2, 1, 1, 0, 8); hold(0..1, true); rounds(30) -> 1
            count(3)                   -> 0
            hold(1, false); rounds(30) -> 2
            count(3)                   -> 2
            """);
        Script.terms("rounds() counts LETTERS and ROUNDS; on paper nothing counts", """
            link(0, 9); come(1..2, 1, 1, 0, 8); lose(0, 1)
            settling(0..2); swings(0, 60, 0); peak(0, 60); storm(1, 40, 0)
            count(3..4)                -> 0 0
            count(11)                  -> 0
            count(13)                  -> 1
            flow(0..1, 7)              -> 0 0
            rounds(2)                  -> 2
            count(3..4)                -> 4 2
            count(11)                  -> 1
            """);
        Script.terms("LETTERS that are to be LOST are used up there", """
            link(0, 9); come(1, 1, 1, 0, 8); lose(0, 2)
            swings(0, 3, 0..2)         -> 1 8 0   // two are LOST, the third is not
            swings(0, 2, 0..2)         -> 0 0 0
            peak(0, 2 3)               -> 0 8
            swings(0, 3, 0)            -> 1       // on paper: they are all there again
            """);
        Script.terms("RATES are asked as they are, by WEIGHT and LEAST as they are now", """
            link(0, 9); come(1, 1, 1, 0, 8); letter(0); change(0, 0, 5)
            flow(0, 5..8)              -> 1 0 8 40
            booked(0)                  -> 40
            over()                     -> 1
            """);
    }

    public static void main(String[] args) {
        linksAndFlows();
        levels();
        tides();
        advertising();
        letters();
        underWay();
        routedAndBooked();
        reasons();
        inFull();
        wholeLife();
        Due.end();
    }
}

/** 'What it is' and 'Terms': the document's own words, all of them in their order, with a run for each. */
public final class SentencesOfTermsTest {
    private SentencesOfTermsTest() {
    }

    private static void whatItIs() {
        Document.section("What it is");
        Document.says("Fair rates: links with capacities, flows over some of them, with weights, least rates, wants; "
            + "who gets how much if water rises in all at once, told by one who sees it all, with a witness for each flow; "
            + "and found by letters that go forth and back over each flow's links, from what each link advertises by what "
            + "it was told of limits elsewhere; rounds of letters till nothing changes, links that are overbooked "
            + "meanwhile, marks; flows that come and go, links that change, letters lost; what a flow more would get, "
            + "what a flow less would give to others, which link to widen, where it is tight; how even it is; kept "
            + "states.", """
            link(0, 100); link(1, 60); come(7, 3, 1, 0, 1000); come(8, 1, 1, 0, 1000); come(9, 2, 2, 0, 1000)
            fair(0..2, 0)              -> 20 80 40
            fair(0..2, 2)              -> 1 0 1
            advertised(0..1)           -> 50 20
            rounds(30)                 -> 3
            flow(0..2, 7)              -> 20 80 20
            count(5)                   -> 1
            link(1, 30); over()        -> 2
            link(1, 60); over()        -> 0
            would(1, 1, 0, 1000)       -> 40
            without(0, 1)              -> 20
            wider(1, 30, 1)            -> 20
            tight()                    -> 1
            even(0..1)                 -> 7 9
            keep(0); go(0); count(0)   -> 2
            again(0); count(0)         -> 3
            lose(1, 1); letter(0)      -> 20
            count(11)                  -> 1
            """);
        Document.says("An object is used for at most 512 calls after it has been made; what later calls answer is free.", """
            link(0, 9); come(1, 1, 1, 0, 8); lose(1..5, 0..99)
            letter(0)                  -> 8       // the 503rd
            link(0, 5)                 -> 9
            count(3)                   -> 1
            rounds(30)                 -> 2
            flow(0, 7)                 -> 5
            keep(1)                    -> true
            go(0)                      -> 0
            again(1)                   -> true
            fair(0, 0)                 -> 5
            count(13)                  -> 495     // the 512th
            """);
    }

    private static void linksAndFlows() {
        Document.section("Terms");
        Document.says("I. LINKS 0 .. 9: CAPACITY 0 .. 1,000,000 (0 at first).", """
            links(0..9, 0)             -> 0*10
            link(0..9, 1000000)        -> 0*10
            link(0..9, 0)              -> 1000000*10
            link(-1 10, 5)             -> NONE*2
            link(0 9, -1 1000001)      -> NONE*4
            links(0..9, 0)             -> 0*10
            refused                    -> 6 0 0 0 0
            """);
        Document.says("FLOWS 0 .. 19 (as they come; a number of one that is gone is given again, the least first):", """
            come(500..519, 2, 1, 0, 9) -> 0..19
            come(520, 2, 1, 0, 9)      -> NONE
            go(11); go(3); go(19); come(600..602, 2, 1, 0, 9) -> 3 11 19
            """);
        Document.says("a NAME 0 .. 999,999 (of its own),", """
            come(0 999999, 1, 1, 0, 9) -> 0 1
            come(-1 1000000, 1, 1, 0, 9) -> NONE*2
            come(0 999999, 1, 1, 0, 9) -> NONE*2
            refused                    -> 2 0 2 0 0
            named(0 999999)            -> 0 1
            """);
        Document.says("LINKS as bits (one at least),", """
            come(1, 517, 1, 0, 9); links(0..9, 2) -> 1 0 1 0*6 1
            come(2, 0 1024, 1, 0, 9)   -> NONE*2
            come(2, 512, 1, 0, 9); links(9, 2) -> 3
            route(0, 0)                -> NONE
            flow(0..1, 1)              -> 517 512
            """);
        Document.says("WEIGHT 1 .. 9,", """
            come(1..9, 1, 0, 0, 9)     -> NONE*9
            come(1, 1, 1, 0, 9); come(2, 1, 9, 0, 9) -> 1
            come(3, 1, 10, 0, 9)       -> NONE
            change(0, 0, 0 10)         -> NONE*2
            change(0, 0, 2..9)         -> 1..8
            flow(0..1, 2)              -> 9 9
            """);
        Document.says("LEAST 0 .. 1,000,000, WANT 0 .. 1,000,000, not below LEAST.", """
            link(0..1, 1000000)
            come(1, 1, 1, 1000000, 1000000) -> 0
            come(2, 2, 1, 0, 0)        -> 1
            come(3, 2, 1, -1, 9)       -> NONE
            come(3, 2, 1, 0, -1 1000001) -> NONE*2
            come(3, 2, 1, 1000001, 1000001) -> NONE
            come(3, 2, 1, 8, 7)        -> NONE
            change(0, 2, 999999)       -> NONE
            change(1, 1, 1)            -> NONE
            refused                    -> 7 0 0 0 0
            come(3, 2, 1, 8, 8)        -> 2
            """);
        Document.says("A LINK's BOUND: all LEAST of its FLOWS together; it is not above its CAPACITY.", """
            link(0, 30); link(1, 12); come(1, 3, 1, 5, 90); come(2, 1, 1, 9, 90); come(3, 2, 1, 7, 90)
            links(0..1, 1)             -> 14 12
            come(4, 2, 1, 1, 90)       -> NONE
            link(0, 13)                -> NONE
            change(0, 1, 6)            -> NONE
            route(1, 3)                -> NONE
            refused                    -> 0 0 0 0 4
            links(0..1, 1)             -> 14 12
            link(0, 14)                -> 30
            go(2); links(0..1, 1)      -> 14 5
            """);
    }

    private static void fair() {
        Document.says("By a LEVEL t (0 .. 1,000,000) a FLOW's RATE is WEIGHT times t, or LEAST if that is more.", """
            link(0, 1000000); come(1, 1, 4, 10, 100); flow(0, 7..8) -> 0 10
            letter(0)                  -> 25
            flow(0, 8)                 -> 100
            change(0, 2, 11); letter(0) -> 2
            flow(0, 8)                 -> 10      // 4 times 2 is less than LEAST
            change(0, 2, 12); letter(0) -> 3
            flow(0, 8)                 -> 12
            change(0, 0, 1); change(0, 2, 1000000); letter(0) -> 1000000
            flow(0, 8)                 -> 1000000
            """);
        Document.says("OWN of a FLOW: the greatest LEVEL by which its RATE is not above WANT.", """
            link(0, 100); come(1, 1, 7, 0, 20); flow(0, 5) -> 2
            change(0, 2, 21); flow(0, 5) -> 3
            change(0, 1, 21); flow(0, 5) -> 3     // nor is LEAST
            change(0, 1, 0); change(0, 2, 6); flow(0, 5) -> 0
            fair(0, 0..2)              -> 0 0 10
            """);
        Document.says("FAIR: at first no FLOW is FIXED.", """
            link(0, 10); come(1..2, 1, 1, 0, 90); fair(0..1, 1) -> 5 5
            link(0, 20); fair(0..1, 1) -> 10 10   // what was FIXED before is not any more
            rounds(30); hold(0, true); link(0, 30); fair(0..1, 1) -> 15 15
            go(0); fair(1, 1)          -> 30
            """);
        Document.says("STEP by STEP: TIDE of a LINK with FLOWS that are not FIXED: the greatest LEVEL by which RATES of all "
            + "these by it and of its FIXED ones together are not above CAPACITY (1,000,000, if all are not).", """
            link(0, 26); come(1, 1, 2, 0, 8); come(2, 1, 3, 0, 100)
            step(0..1, 0)              -> 4 6     // 8 and 3 times 6 are 26
            step(0..1, 2)              -> 0 1
            link(0, 25); step(0..1, 0) -> 4 5
            link(0, 24); step(0..1, 0) -> 4 NONE  // TIDE is 4, too
            step(0, 1..2)              -> 3 1
            link(1, 1000000); come(3, 2, 1, 0, 1000000); step(1, 0..2) -> 1000000 4 2
            link(1, 999999); step(1, 0..2) -> 999999 4 2
            new
            link(0, 30); come(1, 1, 1, 10, 90); come(2, 1, 1, 12, 90); come(3, 1, 1, 0, 90); step(0, 0..2) -> 8 7 1
            """);
        Document.says("The least of all TIDES, and of OWN of all FLOWS that are not FIXED, is the STEP's LEVEL; FIXED by it "
            + "are all FLOWS that are not yet, of LINKS with that TIDE, and those with that OWN.", """
            link(0, 12); link(1, 8); link(2, 100)
            come(1..2, 1, 1, 0, 50); come(3, 2, 1, 0, 50); come(4, 6, 1, 0, 50); come(5, 4, 1, 0, 4); come(6, 4, 1, 0, 9)
            step(0..3, 0)              -> 4 6 9 NONE
            step(0..2, 1)              -> 28 3 32 // by LINK 1 and by OWN at once; by LINK 0; by OWN
            step(0..2, 2)              -> 2 1 0
            fair(0..5, 1)              -> 6 6 4 4 4 9
            fair(0..5, 3)              -> 1 1 0 0 0 2
            """);
        Document.says("WITNESS of a FLOW: the first LINK of its that has that TIDE in that STEP; 10, if there is none.", """
            link(0 2..4, 6); come(1, 28, 1, 0, 9); come(2, 1, 1, 0, 9)
            fair(0..1, 2)              -> 2 0     // LINK 0 has that TIDE, but is not the first one's
            link(2, 7); fair(0, 2)     -> 3
            link(3, 7); fair(0, 2)     -> 4
            change(0, 2, 6); fair(0, 2) -> 4      // OWN, too
            change(0, 2, 5); fair(0..1, 2) -> 10 0
            """);
        Document.says("(FIXED ones have their RATE by that LEVEL.)", """
            link(0, 11); come(1..2, 1, 2, 0, 100); fair(0..1, 0) -> 4 4
            fair(0..1, 1)              -> 2 2
            change(0, 1, 5); fair(0..1, 0) -> 5 4
            fair(0..1, 1)              -> 2 2
            used(0, 0..1)              -> 9 2
            """);
    }

    private static void advertising() {
        Document.says("II. LETTERS. Of each FLOW and each LINK of its the LINK knows AHEAD (1,000,000 at first) and BEHIND "
            + "(likewise).", """
            link(0..1, 9); come(1, 3, 1, 0, 7); come(2, 2, 1, 0, 7)
            known(0, 0..1, 0..1)       -> 1000000*4
            known(1, 0..1, 0)          -> NONE 1000000
            letter(0); known(0, 0..1, 0) -> 7 7
            known(1, 1, 0..1)          -> 1000000*2
            """);
        Document.says("ELSEWHERE is the less of these.", """
            link(0, 20); link(1, 5); come(1, 3, 1, 0, 8); come(2, 1, 1, 0, 50); letter(0)
            known(0, 0, 0..1)          -> 8 5
            advertised(0)              -> 15      // BEHIND is less
            link(1, 30); letter(0); known(0, 0, 0..1) -> 8 1000000
            advertised(0)              -> 12      // AHEAD is less
            """);
        Document.says("A LINK ADVERTISES the greatest LEVEL t by which the RATES of all its FLOWS, each by the less of t and "
            + "its ELSEWHERE there, are not above CAPACITY together.", """
            link(0, 30); link(1, 6); come(1, 3, 2, 0, 100); come(2, 1, 1, 0, 100); come(3, 1, 3, 4, 100)
            advertised(0..1)           -> 5 3     // 2, 1 and 3 times 5
            letter(0); known(0, 0, 1)  -> 3
            advertised(0)              -> 6       // 2 times 3, 1 and 3 times 6
            link(0, 29); advertised(0) -> 5
            link(0, 9); advertised(0)  -> 1       // 2, 1 and LEAST, 4
            link(0, 4); advertised(0)  -> 0
            new
            link(0, 30); come(1, 1, 1, 10, 90); come(2, 1, 1, 12, 90); come(3, 1, 1, 0, 90); advertised(0) -> 8
            """);
        Document.says("A FLOW is MARKED at a LINK, if its ELSEWHERE there is less than what that ADVERTISES.", """
            link(0, 30); link(1, 6); come(1, 3, 2, 0, 100); come(2, 1, 1, 0, 100); come(3, 1, 3, 4, 100); letter(0)
            known(0, 0..1, 2)          -> 1 0     // 3 is less than 6, 5 is not less than 3
            known(1..2, 0, 2)          -> 0 0
            link(0, 22); advertised(0) -> 4
            known(0, 0, 2)             -> 1
            link(0, 21); advertised(0) -> 3
            known(0, 0, 2)             -> 0       // as much is not less
            """);
        Document.says("A FLOW's TOLD: a LEVEL (0 at first).", """
            link(0, 40); come(1, 1, 3, 6, 30); flow(0, 7..8) -> 0 6
            letter(0)                  -> 10
            flow(0, 7..8)              -> 10 30
            """);
    }

    private static void letters() {
        Document.says("A LETTER of a FLOW: u is its OWN; LINK by LINK, the least number first: AHEAD there is u; u is the "
            + "less of u and what it ADVERTISES then.", """
            link(2, 8); link(5, 6); link(7, 7); come(1, 164, 1, 0, 9); letter(0) -> 6
            known(0, 2 5 7, 0)         -> 9 8 6
            new
            link(0, 10); come(1, 1, 1, 0, 2); come(2, 1, 1, 0, 90); letter(0..1) -> 2 8
            change(0, 2, 9); letter(0) -> 5       // then: with the new AHEAD it ADVERTISES 5, no more 8
            """);
        Document.says("TOLD is u.", """
            link(0, 5); link(1, 9); come(1, 3, 1, 0, 7); letter(0) -> 5
            flow(0, 7)                 -> 5
            link(0, 6); flow(0, 7)     -> 5
            letter(0); flow(0, 7)      -> 6
            change(0, 2, 3); letter(0); flow(0, 7) -> 3
            """);
        Document.says("Back, the greatest number first: with v 1,000,000 at first: BEHIND there is v; v is the less of v and "
            + "what it ADVERTISES then.", """
            link(2, 8); link(5, 6); link(7, 7); come(1, 164, 1, 0, 9); letter(0)
            known(0, 2 5 7, 1)         -> 6 1000000 1000000
            link(7, 3); letter(0); known(0, 2 5 7, 1) -> 3 3 1000000
            new
            link(0, 100); link(1, 6); link(2, 1); come(1, 7, 1, 0, 90); come(2, 2, 1, 0, 90); letter(0)
            known(0, 0..2, 1)          -> 1 1 1000000
            advertised(1)              -> 5
            link(2, 50); letter(0); known(0, 0..2, 1) -> 3 1000000 1000000   // then: 3, no more 5
            """);
        Document.says("A LETTER may be LOST at a LINK, on its way forth: AHEAD is told there still, but it goes no further "
            + "(TOLD, BEHIND stay).", """
            link(0..1, 9); link(2, 5); come(1, 7, 1, 0, 6); letter(0) -> 5
            known(0, 0..2, 1)          -> 5 5 1000000
            link(2, 3); change(0, 2, 4); lose(1, 1); letter(0) -> 5
            known(0, 0..2, 0)          -> 4 4 6
            known(0, 0..2, 1)          -> 5 5 1000000
            flow(0, 7)                 -> 5
            letter(0)                  -> 3
            known(0, 0..2, 0)          -> 4 4 4
            known(0, 0..2, 1)          -> 3 3 1000000
            """);
        Document.says("A ROUND: a LETTER of each FLOW, the least number first, but of those that are HELD up.", """
            link(0, 10); come(1, 1, 1, 0, 90); come(2, 1, 1, 0, 2); come(3, 1, 1, 0, 90); rounds(1); count(3) -> 3
            flow(0..2, 7)              -> 3 2 4   // the last one goes by what the second told
            forget(); hold(1, true); rounds(1); count(3) -> 5
            flow(0..2, 7)              -> 3 0 3
            known(1, 0, 0)             -> 1000000
            """);
        Document.says("It is QUIET, if no AHEAD, BEHIND, TOLD is another one by it.", """
            link(0, 5); link(1, 20); link(2, 5); come(1, 3, 1, 0, 9); come(2, 2, 1, 0, 99); come(3, 4, 1, 0, 9); hold(1, true)
            rounds(9)                  -> 2
            rounds(9)                  -> 1
            change(0, 2, 8); rounds(9) -> 2       // AHEAD at LINK 0 alone
            known(0, 0, 0..1)          -> 8 15
            link(1, 21); rounds(9)     -> 2       // BEHIND at LINK 0 alone
            known(0, 0, 0..1)          -> 8 16
            link(2, 6); rounds(9)      -> 2       // TOLD of the third alone
            flow(0 2, 7)               -> 5 6
            link(0, 1000); hold(0, true); rounds(9) -> 1
            """);
    }

    private static void underWay() {
        Document.says("A LETTER may also go LINK by LINK, while others go: UNDER WAY, one of each FLOW at most;", """
            link(0..1, 20); come(1..2, 3, 1, 0, 30); hop(0..1) -> 0 0
            count(12)                  -> 2
            letter(0); count(12)       -> 2
            hop(0)                     -> 1
            count(12)                  -> 2
            count(3)                   -> 3
            """);
        Document.says("what it does at a LINK it does when it comes there, with u, v as they came with it;", """
            link(0, 9); link(1, 8); come(1, 3, 1, 0, 7); hop(0); known(0, 0..1, 0) -> 7 1000000
            link(0, 2); link(1, 6); hop(0); known(0, 0..1, 0) -> 7 7
            flow(0, 7)                 -> 6
            link(1, 5); hop(0); known(0, 0..1, 1) -> 1000000*2
            link(1, 3); hop(0); known(0, 0..1, 1) -> 5 1000000
            """);
        Document.says("behind the last LINK forth TOLD is u, and the next LINK is the last one again, on the way back;", """
            link(3, 4); link(8, 9); come(1, 264, 1, 0, 7); hop(0) -> 3
            flow(0, 7)                 -> 0
            hop(0)                     -> 8
            flow(0, 7)                 -> 4
            known(0, 8, 0..1)          -> 4 1000000
            link(8, 2); hop(0)         -> 28
            hop(0)                     -> 23
            known(0, 3, 1)             -> 2
            """);
        Document.says("behind that back it is not UNDER WAY any more.", """
            link(3 8, 9); come(1, 264, 1, 0, 7); hop(0); hop(0); hop(0); count(12) -> 1
            hop(0)                     -> 23
            count(12)                  -> 0
            hop(0)                     -> 3
            count(12)                  -> 1
            count(3)                   -> 2
            """);
        Document.says("It is gone if the FLOW goes or is ROUTED, and by forget().", """
            link(0..1, 9); come(1..4, 3, 1, 0, 7); hop(0..3); hop(0..3); count(12) -> 4
            go(0); count(12)           -> 3
            route(1, 2); count(12)     -> 2
            hop(1)                     -> 1       // forth again
            hop(2)                     -> 21      // another one's goes on
            forget(); count(12)        -> 0
            hop(2..3)                  -> 0 0
            count(11)                  -> 0
            """);
        Document.says("ROUTED: a FLOW has other LINKS; those that it has not any more know nothing of it, new ones have AHEAD, "
            + "BEHIND 1,000,000; others, TOLD stay.", """
            link(0..3, 9); link(2, 4); come(1, 7, 1, 0, 6); letter(0); known(0, 0..3, 0) -> 6 6 6 NONE
            known(0, 0..3, 1)          -> 4 4 1000000 NONE
            route(0, 10); flow(0, 1)   -> 10
            links(0..3, 2)             -> 0 1 0 1
            known(0, 0..3, 0)          -> NONE 6 NONE 1000000
            known(0, 0..3, 1)          -> NONE 4 NONE 1000000
            flow(0, 7)                 -> 4
            advertised(0 2)            -> 1000000*2
            route(0, 7); known(0, 0..2, 0) -> 1000000 6 1000000
            """);
        Document.says("BOOKED of a LINK: RATES of its FLOWS by TOLD, together; it is OVERBOOKED, if that is above CAPACITY.", """
            link(0, 30); link(1, 9); come(1, 1, 2, 0, 12); come(2, 3, 1, 0, 9); come(3, 1, 1, 5, 90); letter(0..1)
            booked(0..1)               -> 26 9    // 12, 9 and LEAST, 5
            over()                     -> 0
            link(0, 26); over()        -> 0
            link(0, 25); over()        -> 1
            link(1, 8); over()         -> 3
            """);
        Document.says("A FLOW that comes is FLOW with a TOLD of 0 (and AHEAD, BEHIND 1,000,000); one that goes is known by no "
            + "LINK any more.", """
            link(0, 9); link(1, 4); come(1, 3, 1, 0, 6); letter(0); known(0, 0..1, 0..1) -> 6 4 6 1000000
            go(0); known(0, 0..1, 0)   -> NONE*2
            advertised(0..1)           -> 1000000*2
            booked(0)                  -> 0
            links(0..1, 2)             -> 0 0
            come(2, 3, 1, 0, 6); flow(0, 7) -> 0
            known(0, 0..1, 0..1)       -> 1000000*4
            """);
    }

    private static void refusals() {
        Document.says("REFUSED calls answer as told and change nothing but how many were: 0 a number that can't be,", """
            link(0, 9); come(1, 1, 1, 2, 8); letter(0); hop(0)
            link(10, 5); link(0, -1); come(-1, 1, 1, 0, 8); change(0, 3, 5); change(0, 1, 9); route(0, 0); lose(0, 100)
            rounds(0)                  -> NONE
            refused                    -> 8 0 0 0 0
            flow(0, 0..8)              -> 1 1 1 2 8 8 0 8 8
            links(0, 0..2)             -> 9 2 1
            count(0..5)                -> 1 0 1 2 0 1
            count(11..13)              -> 0 1 0
            """);
        Document.says("1 no such FLOW, NAME,", """
            link(0, 9); come(1, 1, 1, 2, 8)
            go(1); change(1, 0, 5); hold(1, true); route(1, 1); hop(1); letter(1) -> NONE
            refused                    -> 0 6 0 0 0
            count(0..4)                -> 1 0 1 0 0
            named(2)                   -> NONE    // a question is not REFUSED
            refused                    -> 0 6 0 0 0
            """);
        Document.says("2 it is so already,", """
            link(0, 9); come(1, 1, 1, 2, 8); hop(0)
            link(0, 9); come(1, 1, 1, 0, 8); change(0, 0, 1); change(0, 1, 2); change(0, 2, 8); hold(0, false); route(0, 1) -> NONE
            refused                    -> 0 0 7 0 0
            count(12)                  -> 1
            count(0)                   -> 1
            """);
        Document.says("3 no room,", """
            come(0..19, 1, 1, 0, 8); come(20, 1, 1, 0, 8) -> NONE
            refused                    -> 0 0 0 1 0
            links(0, 2)                -> 1048575
            named(20)                  -> NONE
            """);
        Document.says("4 a BOUND would be above a CAPACITY.", """
            link(0, 9); link(1, 1); come(1, 1, 1, 2, 80)
            link(0, 1); come(2, 1, 1, 8, 80); change(0, 1, 10); route(0, 3) -> NONE
            refused                    -> 0 0 0 0 4
            flow(0, 1..4)              -> 1 1 2 80
            links(0, 0..2)             -> 9 2 1
            """);
        Document.says("The first of these in that order.", """
            link(0, 9); come(100..119, 1, 1, 0, 80)
            come(100, 1, 0, 10, 80); refused  -> 1 0 0 0 0    // 0, 2, 3 and 4
            come(100, 1, 1, 10, 80); refused  -> 1 0 1 0 0    // 2, 3 and 4
            come(120, 1, 1, 10, 80); refused  -> 1 0 1 1 0    // 3 and 4
            go(19); come(120, 1, 1, 10, 80); refused -> 1 0 1 1 1
            change(19, 0, 0); refused         -> 2 0 1 1 1    // 0 and 1
            route(19, 0); refused             -> 3 0 1 1 1
            hold(19, false); refused          -> 3 1 1 1 1
            """);
    }

    private static void inFull() {
        Document.says("IN FULL. OWN is WANT by WEIGHT, downwards;", """
            come(1, 1, 9, 0, 1000000); flow(0, 5) -> 111111
            change(0, 2, 8); flow(0, 5) -> 0
            change(0, 2, 9); flow(0, 5) -> 1
            change(0, 2, 17); flow(0, 5) -> 1
            change(0, 0, 8); flow(0, 5) -> 2
            """);
        Document.says("RATES are asked as they are, by WEIGHT and LEAST as they are now.", """
            link(0, 90); come(1, 1, 1, 0, 30); letter(0) -> 30
            change(0, 0, 2); flow(0, 7..8) -> 30 60
            booked(0)                  -> 60
            change(0, 2, 70); change(0, 1, 70); flow(0, 7..8) -> 30 70
            booked(0)                  -> 70
            fair(0, 0..1)              -> 70 35
            """);
        Document.says("change(): v out of bounds first, then no such FLOW, then a WANT below LEAST as change() tells it, then "
            + "what else is told there.", """
            link(0, 9); come(1, 1, 1, 4, 20)
            change(5, 0, 10); refused  -> 1 0 0 0 0
            change(5, 1, -1); refused  -> 2 0 0 0 0
            change(5, 2, 3); refused   -> 2 1 0 0 0
            change(0, 2, 3); refused   -> 3 1 0 0 0
            change(0, 1, 21); refused  -> 4 1 0 0 0    // above CAPACITY, too
            change(0, 1, 20); refused  -> 4 1 0 0 1
            change(0, 1, 4); refused   -> 4 1 1 0 1
            """);
        Document.says("FAIR may have two STEPS of one LEVEL; a WITNESS goes by the TIDES of its own STEP.", """
            link(0, 12); link(1, 7); come(1, 3, 1, 0, 90); come(2, 1, 1, 0, 4)
            step(0..1, 0)              -> 4 7
            step(0..1, 2)              -> 0 2
            fair(0..1, 2)              -> 1 10    // TIDE of LINK 0 is 6, then 8; of LINK 1 it is 7
            link(0, 11); fair(0..1, 2) -> 0 10    // then 7 both
            step(1, 0..2)              -> 7 1 3
            link(0, 8); fair(0..1, 2)  -> 0 0     // 4 in the first STEP
            """);
        Document.says("A LINK without FLOWS ADVERTISES 1,000,000.", """
            advertised(0..9)           -> 1000000*10
            link(4, 6); advertised(4)  -> 1000000
            come(1, 16, 1, 0, 9); advertised(4) -> 6
            route(0, 1); advertised(0 4) -> 0 1000000
            """);
        Document.says("What is LOST at a LINK counts down there, behind AHEAD (by letter(), ROUNDS, hop() alike).", """
            link(0, 9); come(1, 1, 1, 0, 8); lose(0, 3); lose(1, 1); letter(0); count(13) -> 3
            known(0, 0, 0)             -> 8
            change(0, 2, 7); rounds(1); count(13) -> 2
            known(0, 0, 0)             -> 7
            change(0, 2, 6); hop(0)    -> 50
            count(13)                  -> 1       // that of LINK 1
            known(0, 0, 0)             -> 6
            lose(0, 0)                 -> 0
            """);
        Document.says("A letter that hop() begins bears OWN as it is then (WANT, WEIGHT told later do not change that) and is at "
            + "its first LINK already;", """
            link(4, 50); link(6, 60); come(1, 80, 1, 0, 40); hop(0) -> 4
            known(0, 4 6, 0)           -> 40 1000000
            change(0, 2, 30); change(0, 0, 3); hop(0) -> 6
            known(0, 4 6, 0)           -> 40 40
            flow(0, 7)                 -> 20      // 3 times 20 are 60
            """);
        Document.says("behind the last one forth it bears 1,000,000;", """
            link(0, 50); link(1, 5); come(1, 3, 1, 0, 40); hop(0); hop(0); flow(0, 7) -> 5
            hop(0); known(0, 1, 1)     -> 1000000
            hop(0); known(0, 0, 1)     -> 5
            """);
        Document.says("with a single LINK it is there, then goes on as told.", """
            link(7, 5); come(1, 128, 1, 0, 40); hop(0) -> 7
            flow(0, 7)                 -> 5
            count(12)                  -> 1
            hop(0)                     -> 27
            known(0, 7, 1)             -> 1000000
            count(12)                  -> 0
            hop(0)                     -> 7
            """);
        Document.says("Without FLOWS, or with all HELD, a ROUND is QUIET: rounds() tells 1.", """
            rounds(30)                 -> 1
            link(0, 9); come(1..2, 1, 1, 0, 8); hold(0..1, true); rounds(30) -> 1
            hold(0, false); rounds(30) -> 2
            """);
        paper();
    }

    private static void paper() {
        Document.says("rounds() counts LETTERS and ROUNDS; on paper nothing counts, but LETTERS that are to be LOST are used up "
            + "there.", """
            link(0, 9); come(1..2, 1, 1, 0, 8); rounds(2); count(3..4) -> 4 2
            link(0, 6); change(0..1, 2, 7); lose(0, 3); settling(0..2) -> 4 2 1
            swings(0, 1..3, 0)         -> 0 0 1
            swings(1, 1..3, 0)         -> 0 1 1   // the third that comes is LOST, the fourth is not
            peak(0, 1 3)               -> 8 8
            storm(6, 2, 0..2)          -> 0 2 2
            count(3..4)                -> 4 2
            count(11 13)               -> 0 3
            flow(0..1, 7)              -> 4 4
            """);
        Document.says("settling(0) is 61, if 60 ROUNDS were none of them QUIET; its other answers are of those that there were.", """
            link(0, 12); link(1, 6); link(2, 3); link(3, 11); link(4, 7)
            come(0, 24, 6, 0, 9); come(1, 27, 5, 0, 7); come(2, 18, 2, 0, 12); come(3, 14, 7, 0, 12); come(4, 14, 1, 0, 5)
            lose(0, 57); settling(0)   -> 60
            lose(0, 58); settling(0)   -> 61
            new
            link(0, 3); link(2, 8); link(3, 7); link(4, 9)
            come(0, 14, 1, 0, 10); come(1, 18, 7, 0, 9); come(2, 17, 5, 0, 5); come(3, 27, 7, 0, 3); come(4, 24, 9, 0, 1000)
            settling(0)                -> 61
            """);
        Document.says("swings(), peak(): n ROUNDS, QUIET or not.", """
            link(0, 9); come(1, 1, 1, 0, 8); rounds(30); lose(0, 40); link(0, 5)
            rounds(30)                 -> 1       // QUIET, as it is LOST
            swings(0, 39 40, 0)        -> 0 1     // 39 are to be LOST yet, and all those ROUNDS are QUIET
            swings(0, 40, 1..2)        -> 8 5
            hold(0, true); peak(0, 60) -> 8
            """);
        Document.says("pass(): the last PASS, by which no new mark comes, counts; all marked, or no FLOWS: 1,000,000.", """
            pass(0, NONE)              -> 1
            pass(0, 0..1)              -> 1000000 NONE
            link(0, 20); come(1, 1, 1, 0, 4); come(2, 1, 1, 0, 60); pass(0, NONE) -> 1
            pass(0, 0)                 -> 10
            letter(0..1); pass(0, NONE) -> 2
            pass(0, 0..2)              -> 10 16 NONE
            link(0, 140); pass(0, NONE) -> 2
            pass(0, 0..2)              -> 70 1000000 NONE
            """);
        Document.says("would(), better(): by number and NAME as if it came; what would be REFUSED there is NONE;", """
            link(0, 30); link(1, 4); come(0..1, 1, 1, 5, 90); would(1, 1, 0, 90) -> 10
            would(1, 1, 21, 90)        -> NONE
            would(0, 1, 0, 90)         -> NONE
            better(0, 2)               -> NONE
            better(0, 1024)            -> NONE
            better(2, 1)               -> NONE
            come(2..19, 1, 1, 0, 90); would(1, 1, 0, 90) -> NONE
            refused                    -> 0*5
            """);
        Document.says("better() goes by the FLOW's own LINKS, its RATE as it is.", """
            link(0, 30); come(0..1, 1, 1, 5, 90); better(0..1, 1) -> 15 15
            link(0, 10); better(0, 1)  -> 5
            refused                    -> 0*5
            """);
        Document.says("spares(): WANT 0 .. 1,000,000.", """
            link(0, 1000000); come(1..2, 1, 1, 0, 1000000); spares(0, 0) -> 500000
            spares(0, 1000000)         -> 0
            spares(0, -1 1000001)      -> MIN*2
            """);
        Document.says("weightFor(): any rate (0 and below: 1).", """
            link(0, 30); come(1..2, 1, 5, 0, 90); weightFor(0, MIN -1 0 1) -> 1*4
            weightFor(0, 15 16)        -> 5 8     // 5, 8, 9, 12, 15, 12, 14, 16, 18
            weightFor(0, 18 19 MAX)    -> 9 NONE*2
            """);
        Document.says("wider(): any number from 0 on.", """
            link(0, 30); come(1..2, 1, 1, 0, 90); wider(0, 0 1 2 MAX, 0) -> 0 0 1 75
            wider(0, -1 MIN, 0)        -> MIN*2
            """);
        Document.says("tight(): up to 1,000,000; the least LEVEL has to be more than it is.", """
            link(0, 999999); come(1, 1, 1, 0, 1000000); tight() -> 0
            link(0, 1000000); tight()  -> NONE
            link(0, 999999); change(0, 2, 999999); tight() -> NONE
            """);
        Document.says("enough(): from BOUND on; 0 without FLOWS.", """
            link(0 1, 50); enough(0)   -> 0
            come(1, 1, 9, 8, 8); enough(0..1) -> 8 0
            """);
        Document.says("touched(): NONE if CAPACITY is BOUND.", """
            link(0, 9); come(1, 1, 1, 8, 90); touched(0..1) -> 1 NONE
            link(0, 8); touched(0)     -> NONE
            """);
        Document.says("storm(): no DRAW of who goes, where there are no FLOWS; HELD ones and LETTERS to be LOST are as they are.", """
            storm(52, 1..2, 2)         -> 0 1     // 69,701 and 892,320 follow 52
            link(0, 9); come(1, 1, 1, 0, 9); hold(0, true); storm(6, 5, 0) -> 5
            hold(0, false); storm(6, 5, 0) -> 4
            lose(0, 2); storm(6, 5, 0) -> 3
            count(13)                  -> 2
            """);
        Document.says("again() brings back how many LETTERS, ROUNDS, LOST ones there were, not how many were REFUSED.", """
            link(0, 9); come(1, 1, 1, 0, 8); lose(0, 1); rounds(3); keep(0); count(3..4) -> 3 3
            lose(0, 2); rounds(1); letter(0); go(4); count(3..4) -> 5 4
            count(11)                  -> 3
            again(0); count(3..4)      -> 3 3
            count(11)                  -> 1
            refused                    -> 0 1 0 0 0
            """);
        Document.says("go(): the NAME is free then, what is HELD and UNDER WAY of it is gone; a number that is given again begins "
            + "anew.", """
            link(0..1, 9); come(77, 3, 1, 0, 8); letter(0); hold(0, true); hop(0); go(0); named(77) -> NONE
            count(1 12)                -> 0 0
            come(77, 3, 1, 0, 8)       -> 0
            flow(0, 6..8)              -> 0*3
            known(0, 0..1, 0..1)       -> 1000000*4
            hop(0)                     -> 0
            """);
        Document.says("proof(2): of FLOWS of less LEVEL at that LINK.", """
            link(0, 50); link(1, 9); come(1, 1, 1, 0, 90); come(2, 1, 2, 0, 10); come(3, 3, 1, 0, 90); come(4, 2, 1, 0, 2)
            fair(0..3, 1)              -> 33 5 7 2
            proof(0, 2)                -> 17      // 10 and 7; the last one is not there
            proof(2, 2)                -> 2
            """);
        Document.says("The constants: `NONE = -1`: There is none; it was REFUSED.", """
            named(5)                   -> -1
            go(5)                      -> -1
            refused                    -> 0 1 0 0 0
            """);
        Due.same("NONE", FairRates.NONE, -1);
    }

    public static void main(String[] args) {
        whatItIs();
        linksAndFlows();
        fair();
        advertising();
        letters();
        underWay();
        refusals();
        inFull();
        Document.isWhole("What it is", "Terms");
        Due.end();
    }
}

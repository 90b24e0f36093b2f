import java.util.ArrayList;
import java.util.List;

/** Promises 1 to 46: the document's own words, all of them in their order, with a run for each. */
public final class SentencesOfPromisesTest {
    /**
     * FAIR: levels 11 11 14 15 7, rates 11 22 14 45 7, witnesses 0 0 1 10 3, steps 1 1 2 3 0; of links 0 to 3
     * are used 40 25 59 7. By letters: 10 10 15 15 7 behind the first round, as is fair behind the second,
     * and the third is QUIET.
     */
    private static final String NET = """
        link(0, 40); link(1, 25); link(2, 90); link(3, 7)
        come(50, 3, 1, 0, 500); come(51, 1, 2, 0, 500); come(52, 6, 1, 10, 500); come(53, 4, 3, 0, 45)
        come(54, 9, 1, 0, 500)
        """;
    private static final List<String> HEADINGS = new ArrayList<>();

    private SentencesOfPromisesTest() {
    }

    private static void promise(String heading) {
        HEADINGS.add(heading);
        Document.section(heading);
    }

    private static void linksAndFlowsChange() {
        promise("Promise 1: A new object");
        Document.says("No FLOWS, CAPACITIES 0.", """
            count(0)                   -> 0
            flow(0..19, 0)             -> throws*20
            links(0..9, 0)             -> 0*10
            links(0..9, 2)             -> 0*10
            link(5, 9); come(1, 32, 1, 0, 9)
            new
            count(0)                   -> 0
            links(5, 0..2)             -> 0*3
            """);

        promise("Promise 2: link");
        Document.says("CAPACITY of a LINK: what it was.", """
            link(0 9, 70)              -> 0 0
            link(9, 1000000)           -> 70
            link(9, 0)                 -> 1000000
            links(0 9, 0)              -> 70 0
            """);
        Document.says("NONE: 0, 2, 4.", """
            link(0, 70); come(1, 1, 1, 60, 90)
            link(-1 10, 5); link(0, -1 1000001); refused -> 4 0 0 0 0
            link(0, 70); link(9, 0); refused -> 4 0 2 0 0
            link(0, 59)                -> NONE
            refused                    -> 4 0 2 0 1
            link(0, 60)                -> 70
            """);

        promise("Promise 3: come");
        Document.says("A FLOW comes: its number.", """
            link(0, 70); come(8, 1, 2, 3, 90); come(6, 513, 1, 0, 50) -> 1
            flow(0, 0..4)              -> 8 1 2 3 90
            flow(1, 0..4)              -> 6 513 1 0 50
            go(0); come(8, 1, 2, 3, 90) -> 0
            """);
        Document.says("NONE: 0 (also LINKS 0, or others than 0 .. 9; WANT below LEAST), 2 (the NAME is another one's), 3, 4.", """
            link(0, 70); come(8, 1, 1, 0, 90)
            come(-1 1000000, 1, 1, 0, 9); come(1, 1, 0 10, 0, 9); come(1, 1, 1, -1 1000001, 9); come(1, 1, 1, 0, -1 1000001)
            refused                    -> 8 0 0 0 0
            come(1, 0 1024 1025 -1, 1, 0, 9); come(1, 1, 1, 9, 8); refused -> 13 0 0 0 0
            come(8, 2, 1, 0, 9); refused -> 13 0 1 0 0
            come(9, 1, 1, 71, 90); come(9, 3, 1, 1, 90); refused -> 13 0 1 0 2
            count(0)                   -> 1
            come(101..119, 1, 1, 0, 9); come(9, 1, 1, 0, 9); refused -> 13 0 1 1 2
            """);

        promise("Promise 4: go");
        Document.says("A FLOW goes: how many are left.", """
            come(0..2, 1, 1, 0, 9); go(1) -> 2
            links(0, 2)                -> 5
            go(0)                      -> 1
            go(2)                      -> 0
            """);
        Document.says("NONE: 1.", """
            come(0, 1, 1, 0, 9); go(-1 1 20 32) -> NONE*4
            go(0); go(0)               -> NONE
            refused                    -> 0 5 0 0 0
            """);

        promise("Promise 5: change");
        Document.says("WEIGHT (what 0), LEAST (1), WANT (2) of a FLOW: what it was.", """
            link(0, 70); come(1, 1, 2, 3, 40); come(2, 1, 2, 3, 40)
            change(0, 0, 5)            -> 2
            change(0, 1, 30)           -> 3
            change(0, 2, 60)           -> 40
            flow(0, 2..4)              -> 5 30 60
            flow(1, 2..4)              -> 2 3 40
            """);
        Document.says("NONE: 0 (WANT below LEAST, too), 1, 2, 4.", """
            link(0, 70); come(1, 1, 2, 30, 40); come(2, 1, 2, 3, 80)
            change(0, -1 3, 5); change(0, 0, 0 10); change(0, 1..2, -1 1000001); refused -> 8 0 0 0 0
            change(0, 1, 41); change(0, 2, 29); refused -> 10 0 0 0 0
            change(2, 0, 5); refused   -> 10 1 0 0 0
            change(0, 0, 2); change(0, 1, 30); change(0, 2, 40); refused -> 10 1 3 0 0
            change(1, 1, 41); refused  -> 10 1 3 0 1
            change(1, 1, 40)           -> 3
            flow(0, 2..4)              -> 2 30 40
            """);

        promise("Promise 6: hold");
        Document.says("A FLOW is HELD up (or no more): how many are.", """
            link(0, 70); come(0..2, 1, 1, 0, 9); hold(2, true) -> 1
            hold(0, true)              -> 2
            flow(0..2, 6)              -> 1 0 1
            rounds(1); flow(0..2, 7)   -> 0 9 0
            hold(2, false)             -> 1
            rounds(1); flow(0..2, 7)   -> 0 9 9
            """);
        Document.says("NONE: 1, 2.", """
            come(0, 1, 1, 0, 9); hold(-1 1 20, true) -> NONE*3
            refused                    -> 0 3 0 0 0
            hold(0, false)             -> NONE
            hold(0, true); hold(0, true) -> NONE
            refused                    -> 0 3 2 0 0
            count(1)                   -> 1
            """);

        promise("Promise 7: route");
        Document.says("ROUTED: how many LINKS are new.", """
            link(0..4, 9); come(1, 6, 1, 0, 8); route(0, 15) -> 2
            flow(0, 1)                 -> 15
            route(0, 3)                -> 0
            route(0, 24)               -> 2
            links(0..4, 2)             -> 0 0 0 1 1
            """);
        Document.says("NONE: 0 (as come()), 1, 2, 4.", """
            link(0, 9); link(1, 3); come(1, 1, 1, 4, 8); route(0, 0 1024 1025 -1); refused -> 4 0 0 0 0
            route(1, 1); refused       -> 4 1 0 0 0
            route(0, 1); refused       -> 4 1 1 0 0
            route(0, 2); route(0, 3); refused -> 4 1 1 0 2
            flow(0, 1)                 -> 1
            link(1, 4); route(0, 3)    -> 1
            """);
    }

    private static void lettersGo() {
        promise("Promise 8: lose");
        Document.says("The next n (0 .. 99) LETTERS that come to a LINK on their way forth (UNDER WAY, too) are LOST there: how "
            + "many were to be.", """
            link(0..1, 9); come(1, 3, 1, 0, 8); come(2, 2, 1, 0, 8); lose(1, 99) -> 0
            lose(1, 2)                 -> 99
            letter(0)                  -> 0
            hop(1)                     -> 51
            letter(0)                  -> 4
            hop(0); hop(0); lose(1, 1) -> 0
            hop(0)                     -> 21      // on the way back it is not LOST
            lose(1, 0)                 -> 1
            count(11)                  -> 2
            """);
        Document.says("NONE: 0.", """
            lose(3, 7); lose(-1 10, 1) -> NONE*2
            lose(3, -1 100)            -> NONE*2
            refused                    -> 4 0 0 0 0
            lose(3, 0)                 -> 7
            """);

        promise("Promise 9: hop");
        Document.says("A FLOW's LETTER UNDER WAY goes to its next LINK (one begins, if there is none): the LINK;", """
            link(1 4 8, 9); come(1, 274, 1, 0, 8); count(12) -> 0
            hop(0)                     -> 1
            count(12)                  -> 1
            hop(0)                     -> 4
            hop(0)                     -> 8
            known(0, 1 4 8, 0)         -> 8 8 8
            """);
        Document.says("on the way back 20 and the LINK;", """
            link(1 4 8, 9); come(1, 274, 1, 0, 8); hop(0); hop(0); hop(0); hop(0) -> 28
            hop(0)                     -> 24
            hop(0)                     -> 21
            count(12)                  -> 0
            hop(0)                     -> 1
            count(3)                   -> 2
            """);
        Document.says("50 and the LINK: it is LOST there.", """
            link(1 4 8, 9); come(1, 274, 1, 0, 8); lose(4 8, 1); hop(0); hop(0) -> 54
            count(11..12)              -> 1 0
            hop(0)                     -> 1
            hop(0)                     -> 4
            hop(0)                     -> 58
            known(0, 8, 0)             -> 8
            flow(0, 7)                 -> 0
            """);
        Document.says("NONE: 1.", """
            hop(0 -1 20)               -> NONE*3
            refused                    -> 0 3 0 0 0
            count(3)                   -> 0
            """);

        promise("Promise 10: letter");
        Document.says("A LETTER of a FLOW (HELD up or not; not the one UNDER WAY): its TOLD.", NET + """
            letter(0..4)               -> 10 10 15 15 7
            hold(0, true); letter(0)   -> 11
            hop(4)                     -> 0
            letter(4)                  -> 7
            hop(4)                     -> 3
            count(3)                   -> 8
            """);
        Document.says("NONE: 1.", """
            letter(0 -1 20)            -> NONE*3
            refused                    -> 0 3 0 0 0
            count(3)                   -> 0
            """);

        promise("Promise 11: rounds");
        Document.says("n ROUNDS (1 .. 30), none behind a QUIET one: how many there were (the QUIET one, too).", NET + """
            rounds(1)                  -> 1
            flow(0..4, 7)              -> 10 10 15 15 7
            rounds(30)                 -> 2
            flow(0..4, 7)              -> 11 11 14 15 7
            rounds(30)                 -> 1
            count(3..4)                -> 20 4
            forget(); rounds(2)        -> 2
            """);
        Document.says("NONE: 0.", """
            rounds(0 31 -1)            -> NONE*3
            refused                    -> 3 0 0 0 0
            count(4)                   -> 0
            """);

        promise("Promise 12: forget");
        Document.says("All AHEAD, BEHIND, TOLD are as at first: how many FLOWS.", NET + """
            rounds(3); forget()        -> 5
            known(0, 0..1, 0..1)       -> 1000000*4
            known(4, 0 3, 0..1)        -> 1000000*4
            flow(0..4, 7)              -> 0*5
            advertised(0..3)           -> 10 12 22 7
            links(0..3, 0)             -> 40 25 90 7
            """);

        promise("Promise 13: keep");
        Document.says("All is kept under k (0, 1), but how many calls were REFUSED: true;", NET + """
            rounds(1); hop(0); hold(1, true); lose(2, 5); go(9); keep(1) -> true
            go(0); forget(); hold(1, false); lose(2, 0); link(0, 1); go(9); again(1) -> true
            flow(0..4, 7)              -> 10 10 15 15 7
            known(0, 0, 0..1)          -> 500 15
            count(0..4)                -> 5 1 4 6 1
            count(12..13)              -> 1 5
            hop(0)                     -> 1
            links(0, 0)                -> 40
            refused                    -> 0 2 0 0 0
            """);
        Document.says("false: others.", """
            keep(-1 2)                 -> false*2
            again(0..1)                -> false*2
            keep(0..1)                 -> true*2
            """);

        promise("Promise 14: again");
        Document.says("It is as it was kept;", NET + """
            keep(0); go(4); rounds(30); keep(1); again(0) -> true
            count(0 4)                 -> 5 0
            fair(0, 0)                 -> 11
            again(1); count(0 4)       -> 4 3
            fair(0, 0)                 -> 12
            flow(0, 7)                 -> 12
            again(0); flow(0, 7)       -> 0
            advertised(0)              -> 10
            hop(0); keep(0); hop(0); hop(0); again(0); hop(0) -> 1
            known(0, 0..1, 0)          -> 500 10
            """);
        Document.says("false: others, nothing kept.", """
            link(0, 9); again(0..1)    -> false*2
            again(-1 2)                -> false*2
            keep(0); again(1)          -> false
            links(0, 0)                -> 9
            """);
    }

    private static void asItIs() {
        promise("Promise 15: links");
        Document.says("Of a LINK CAPACITY (what 0), BOUND (1), FLOWS as bits (2).", NET + """
            links(0..4, 0)             -> 40 25 90 7 0
            links(0..4, 1)             -> 0 10 10 0 0
            links(0..4, 2)             -> 19 5 12 16 0
            """);
        Document.says("NONE: others.", NET + """
            links(-1 10, 0)            -> NONE*2
            links(0, -1 3)             -> NONE*2
            """);

        promise("Promise 16: flow");
        Document.says("Of a FLOW NAME (what 0), LINKS (1), WEIGHT (2), LEAST (3), WANT (4), OWN (5), 1 if HELD up, else 0 (6), TOLD "
            + "(7), RATE by that (8).", NET + """
            flow(3, 0..8)              -> 53 4 3 0 45 15 0 0 0
            rounds(3); hold(2, true); flow(2, 0..8) -> 52 6 1 10 500 500 1 14 14
            flow(1, 5..8)              -> 250 0 11 22
            """);
        Document.says("NoSuchElementException: no such FLOW;", NET + """
            flow(5 -1 20 32, 0)        -> throws*4
            flow(5, 9)                 -> throws
            go(2); flow(2, 0)          -> throws
            """);
        Document.says("NONE: others.", NET + """
            flow(0, -1 9)              -> NONE*2
            """);

        promise("Promise 17: named");
        Document.says("The FLOW with a NAME.", NET + """
            named(50..54)              -> 0..4
            go(1); come(99, 1, 1, 0, 1); named(99) -> 1
            """);
        Document.says("NONE.", NET + """
            named(0 49 55 -1 1000000)  -> NONE*5
            go(1); named(51)           -> NONE
            """);
    }

    private static void whatIsFair() {
        promise("Promise 18: fair");
        Document.says("FAIR: of a FLOW its RATE (what 0), LEVEL (1), WITNESS (2), STEP (3, 0 on).", NET + """
            fair(0..4, 0)              -> 11 22 14 45 7
            fair(0..4, 1)              -> 11 11 14 15 7
            fair(0..4, 2)              -> 0 0 1 10 3
            fair(0..4, 3)              -> 1 1 2 3 0
            """);
        Document.says("NoSuchElementException: no such FLOW;", NET + """
            fair(5 -1 20 32, 0)        -> throws*4
            fair(5, 4)                 -> throws
            """);
        Document.says("NONE: others.", NET + """
            fair(0, -1 4)              -> NONE*2
            """);

        promise("Promise 19: used");
        Document.says("FAIR: of a LINK RATES of all its FLOWS together (what 0), what is left of CAPACITY (1), of how many FLOWS it "
            + "is the WITNESS (2).", NET + """
            used(0..4, 0)              -> 40 25 59 7 0
            used(0..4, 1)              -> 0 0 31 0 0
            used(0..4, 2)              -> 2 1 0 1 0
            """);
        Document.says("NONE: others.", NET + """
            used(-1 10, 0..2)          -> NONE*6
            used(0, -1 3)              -> NONE*2
            """);

        promise("Promise 20: water");
        Document.says("FAIR: how many STEPS (what 0), the least LEVEL (1), the greatest (2; NONE both without FLOWS), all RATES "
            + "together (3).", "water(0..3) -> 0 NONE NONE 0\n" + NET + """
            water(0..3)                -> 4 7 15 99
            route(0, 512); link(9, 80); water(1..2) -> 7 80
            """);
        Document.says("NONE: others.", NET + """
            water(-1 4)                -> NONE*2
            """);

        promise("Promise 21: step");
        Document.says("FAIR: of the k-th STEP (0 on) its LEVEL (what 0), FLOWS FIXED by it as bits (1), LINKS with FLOWS that were "
            + "not FIXED and with that TIDE, as bits (2), all RATES FIXED by it together (3).", NET + """
            step(0..3, 0)              -> 7 11 14 15
            step(0..3, 1)              -> 16 3 4 8
            step(0..3, 2)              -> 8 1 2 0
            step(0..3, 3)              -> 7 33 14 45
            """);
        Document.says("NONE: others.", NET + """
            step(-1 4, 0)              -> NONE*2
            step(0, -1 4)              -> NONE*2
            """);

        promise("Promise 22: ranked");
        Document.says("FAIR: the k-th FLOW (0 on) by LEVEL, then number.", NET + """
            ranked(0..4)               -> 4 0 1 2 3
            new
            link(0, 90); come(1, 1, 1, 0, 6); come(2, 1, 1, 0, 5); come(3, 1, 1, 0, 6); ranked(0..2) -> 1 0 2
            """);
        Document.says("NONE.", "ranked(0) -> NONE\n" + NET + """
            ranked(-1 5)               -> NONE*2
            """);

        promise("Promise 23: proof");
        Document.says("FAIR: at its WITNESS how many FLOWS have a greater LEVEL than a FLOW (what 0), how many the same, it too "
            + "(1), RATES of all of less LEVEL there together (2).", NET + """
            proof(0, 0..2)             -> 0 2 7
            proof(1, 0..2)             -> 0 2 7
            proof(2, 0..2)             -> 0 1 11
            proof(4, 0..2)             -> 0 1 0
            """);
        Document.says("NoSuchElementException: no such FLOW;", NET + """
            proof(5 -1 20 32, 0)       -> throws*4
            proof(5, 3)                -> throws
            """);
        Document.says("NONE: WITNESS 10, others.", NET + """
            proof(3, 0..2)             -> NONE*3
            proof(0, -1 3)             -> NONE*2
            """);

        promise("Promise 24: fullest");
        Document.says("FAIR: the k-th LINK (0 on) by what is left of its CAPACITY, the least first, then by number; of those that "
            + "have FLOWS.", NET + """
            fullest(0..3)              -> 0 1 3 2
            link(0, 42); fullest(0..3) -> 1 3 0 2   // 2 are left
            """);
        Document.says("NONE.", "fullest(0) -> NONE\n" + NET + """
            fullest(-1 4)              -> NONE*2
            """);

        promise("Promise 25: even");
        Document.says("How even the FAIR RATES are: (all together) squared by how many FLOWS times all squares together, the upper "
            + "number (what 0), the lower one (1), in lowest terms.", NET + """
            even(0..1)                 -> 9801 14375
            new
            link(0, 10); link(1, 30); come(1, 1, 1, 0, 90); come(2, 2, 1, 0, 90); even(0..1) -> 4 5
            """);
        Document.says("NONE: all are 0, others.", "even(0..1) -> NONE*2\n" + NET + """
            even(-1 2)                 -> NONE*2
            new
            come(1, 1, 1, 0, 90); even(0..1) -> NONE*2
            """);
    }

    private static void whatLettersTold() {
        promise("Promise 26: advertised");
        Document.says("What a LINK ADVERTISES.", NET + """
            advertised(0..4)           -> 10 12 22 7 1000000
            rounds(1); advertised(0..4) -> 11 15 1000000 7 1000000
            rounds(1); advertised(0..4) -> 11 14 1000000 7 1000000
            """);
        Document.says("NONE: others.", """
            advertised(-1 10)          -> NONE*2
            """);

        promise("Promise 27: pass");
        Document.says("How a LINK finds its marks by itself: at first no FLOW has one;", NET + """
            rounds(3); pass(0..3, 0)   -> 10 12 22 7
            """);
        Document.says("PASS by PASS t is the greatest LEVEL by which RATES of FLOWS without a mark by t, of those with one by their "
            + "ELSEWHERE, are not above CAPACITY together (1,000,000, if all have one);", NET + """
            rounds(3); pass(0..3, 1)   -> 11 14 1000000 NONE
            link(1, 27); pass(1, 0..1) -> 13 16   // 11 of the first that has a mark
            """);
        Document.says("then all whose ELSEWHERE is less than t have a mark;", NET + """
            rounds(3); link(2, 58); pass(2, 0) -> 14
            pass(2, NONE)              -> 1       // 14 is not less
            link(2, 60); pass(2, 0)    -> 15
            pass(2, 1)                 -> 15      // the first of them has a mark: 46 for 3 times t
            pass(2, NONE)              -> 2
            link(2, 64); pass(2, 0..1) -> 16 1000000  // both have one
            """);
        Document.says("till a PASS gives no new one.", """
            link(0, 30); come(1, 1, 1, 0, 9); come(2, 1, 1, 0, 10); come(3, 1, 1, 0, 90); letter(0..2)
            pass(0, NONE)              -> 2       // 10, then 10 once more
            pass(0, 0..2)              -> 10 10 NONE
            link(0, 32); pass(0, NONE) -> 3       // 10, 11, 13
            pass(0, 0..3)              -> 10 11 13 NONE
            """);
        Document.says("How many PASSES (k NONE), t of the k-th (0 on).", NET + """
            pass(0..4, NONE)           -> 1*5
            rounds(3); pass(0..4, NONE) -> 2 2 2 1 1
            pass(0, 0..1)              -> 10 11
            """);
        Document.says("NONE: no such ones, others.", NET + """
            rounds(3); pass(0, 2)      -> NONE
            pass(0, -2)                -> NONE
            pass(-1 10, 0)             -> NONE*2
            pass(-1 10, NONE)          -> NONE*2
            """);

        promise("Promise 28: known");
        Document.says("Of a FLOW at a LINK AHEAD (what 0), BEHIND (1), 1 if MARKED, else 0 (2).", NET + """
            rounds(1); known(0, 0..1, 0) -> 500 10
            known(0, 0..1, 1)          -> 15 1000000
            known(0, 0..1, 2)          -> 0 1
            known(4, 0 3, 0)           -> 500 10
            known(4, 0 3, 1)           -> 7 1000000
            known(4, 0 3, 2)           -> 1 0
            """);
        Document.says("NONE: it has not that LINK, others.", NET + """
            known(0, 2 9, 0..2)        -> NONE*6
            known(0, 0, -1 3)          -> NONE*2
            known(0, -1 10, 0)         -> NONE*2
            known(5 -1 20, 0, 0)       -> NONE*3
            """);

        promise("Promise 29: booked");
        Document.says("BOOKED of a LINK.", NET + """
            booked(0..4)               -> 0 10 10 0 0
            rounds(1); booked(0..4)    -> 37 25 60 7 0
            rounds(1); booked(0..4)    -> 40 25 59 7 0
            """);
        Document.says("NONE: others.", """
            booked(-1 10)              -> NONE*2
            """);

        promise("Promise 30: over");
        Document.says("OVERBOOKED LINKS, as bits.", NET + """
            rounds(3); over()          -> 0
            link(0, 39); link(3, 6); over() -> 9
            link(2, 58); over()        -> 13
            link(0, 40); over()        -> 12
            """);
    }

    private static void roundsOnPaper() {
        promise("Promise 31: settling");
        Document.says("Were ROUNDS to go on: how many till one is QUIET, that too (60 at most; 61: not by so many) (what 0),", NET + """
            settling(0)                -> 3
            rounds(1); settling(0)     -> 2
            rounds(2); settling(0)     -> 1
            new
            link(0, 3); link(2, 8); link(3, 7); link(4, 9)
            come(0, 14, 1, 0, 10); come(1, 18, 7, 0, 9); come(2, 17, 5, 0, 5); come(3, 27, 7, 0, 3); come(4, 24, 9, 0, 1000)
            settling(0)                -> 61
            """);
        Document.says("in how many of these there is an OVERBOOKED LINK behind it (1),", NET + """
            settling(1)                -> 0
            rounds(3); link(3, 6); hold(4, true); settling(0..1) -> 1 1
            hold(4, false); settling(0..1) -> 2 0
            link(0, 30); lose(0, 2); settling(1) -> 1
            """);
        Document.says("1 if each FLOW's TOLD is its LEVEL by FAIR then, else 0 (2).", NET + """
            settling(2)                -> 1
            hold(3, true); settling(2) -> 0
            letter(3); settling(2)     -> 1
            """);
        Document.says("NONE: others.", """
            settling(-1 3)             -> NONE*2
            """);

        promise("Promise 32: swings");
        Document.says("Were n (1 .. 60) ROUNDS to go on: how often a FLOW's TOLD would be another one behind one than ahead of it "
            + "(what 0),", NET + """
            swings(0, 1 2 3 60, 0)     -> 1 2 2 2
            swings(4, 1 2 3 60, 0)     -> 1*4
            rounds(1); swings(0, 1 60, 0) -> 1 1
            rounds(2); swings(0, 60, 0) -> 0
            """);
        Document.says("the greatest TOLD behind any of them (1),", NET + """
            swings(0, 1 2 60, 1)       -> 10 11 11
            swings(2, 1 2 60, 1)       -> 15*3
            rounds(1); swings(2, 60, 1) -> 14     // 15 was ahead of them
            """);
        Document.says("the least (2).", NET + """
            swings(0, 1 2 60, 2)       -> 10*3
            swings(2, 1 2 60, 2)       -> 15 14 14
            rounds(1); swings(0, 60, 2) -> 11
            """);
        Document.says("NONE: others.", NET + """
            swings(0, 0 61 -1, 0)      -> NONE*3
            swings(0, 1, -1 3)         -> NONE*2
            swings(5 -1 20, 1, 0)      -> NONE*3
            """);

        promise("Promise 33: peak");
        Document.says("Likewise the greatest BOOKED of a LINK behind any of n (1 .. 60) ROUNDS.", NET + """
            peak(0, 1 2 60)            -> 37 40 40
            peak(2, 1 2 60)            -> 60*3
            rounds(1); peak(2, 1 60)   -> 59*2    // 60 were ahead of them
            """);
        Document.says("NONE: others.", """
            peak(0, 0 61 -1)           -> NONE*3
            peak(-1 10, 1)             -> NONE*2
            """);

        promise("Promise 34: off");
        Document.says("How far TOLD of all FLOWS are off their LEVELS by FAIR, without sign, together.", NET + """
            off()                      -> 58
            rounds(1); off()           -> 3       // two are 1 below, one is 1 above
            rounds(1); off()           -> 0
            """);
    }

    private static void whatWouldBe() {
        promise("Promise 35: would");
        Document.says("RATE that such a FLOW would get by FAIR, were it to come, too.", NET + """
            would(1 8, 1, 0, 500)      -> 8 3
            would(1, 2, 0, 500)        -> 12
            would(1, 1, 0, 5)          -> 5
            would(1, 1, 20, 500)       -> 20
            count(0)                   -> 5
            """);
        Document.says("NONE: come() would be REFUSED for something else than its NAME.", NET + """
            would(0 1024, 1, 0, 9)     -> NONE*2
            would(1, 0 10, 0, 9)       -> NONE*2
            would(1, 1, 9, 8)          -> NONE
            would(1, 1, -1, 8)         -> NONE
            would(1, 1, 0, 1000001)    -> NONE
            would(2, 1, 16, 90)        -> NONE
            would(2, 1, 15, 90)        -> 15
            come(0..14, 1, 1, 0, 0); would(1, 1, 0, 9) -> NONE
            """);

        promise("Promise 36: better");
        Document.says("RATE that a FLOW would get by FAIR, were it ROUTED so.", NET + """
            better(4, 1)               -> 10
            better(1, 8)               -> 4
            better(4, 9)               -> 7
            flow(4, 1)                 -> 9
            """);
        Document.says("NONE: route() would be REFUSED for something else than 2.", NET + """
            better(0, 0 1024)          -> NONE*2
            better(5 -1 20, 1)         -> NONE*3
            better(2, 8 14)            -> NONE*2  // LEAST is 10
            refused                    -> 0*5
            """);

        promise("Promise 37: spares");
        Document.says("How much more all other FLOWS together would get by FAIR, were a FLOW's WANT so much (may be below 0).", NET + """
            spares(4, 0 5 500)         -> 5 0 0
            change(4, 2, 0); spares(4, 500) -> -5
            flow(4, 4)                 -> 0
            """);
        Document.says("Integer.MIN_VALUE: no such FLOW, WANT below its LEAST, others.", NET + """
            spares(5 -1 20, 5)         -> MIN*3
            spares(2, 9)               -> MIN
            spares(2, 10)              -> 0
            spares(0, -1 1000001)      -> MIN*2
            """);

        promise("Promise 38: weightFor");
        Document.says("The least WEIGHT by which a FLOW would get a RATE of as much or more by FAIR.", NET + """
            weightFor(0, 11 12 14 15)  -> 1 2 2 3
            weightFor(4, 7)            -> 1
            flow(0, 2)                 -> 1
            """);
        Document.says("NONE: by none; others.", NET + """
            weightFor(0, 16)           -> NONE
            weightFor(4, 8)            -> NONE
            weightFor(5 -1 20, 0)      -> NONE*3
            """);

        promise("Promise 39: roomFor");
        Document.says("The greatest LEAST (and WANT) with which a FLOW over LINKS could come now.", NET + """
            roomFor(1 3 4 8 1023)      -> 40 15 80 7 0
            link(9, 30); roomFor(513)  -> 30
            come(9, 3, 1, 16, 16)      -> NONE
            come(9, 3, 1, 15, 15)      -> 5
            """);
        Document.says("NONE: no room, no LINKS.", NET + """
            roomFor(0 1024 -1)         -> NONE*3
            come(0..14, 1, 1, 0, 0); roomFor(4) -> NONE
            """);

        promise("Promise 40: touched");
        Document.says("FLOWS (bits) whose LEVEL by FAIR would be another one, were CAPACITY of a LINK 1 less.", NET + """
            touched(0..3)              -> 7 4 0 16
            link(0, 41); touched(0)    -> 0       // 40 would do
            link(0, 40)
            links(0..3, 0)             -> 40 25 90 7
            """);
        Document.says("NONE: it is its BOUND, others.", NET + """
            touched(4 9 -1 10)         -> NONE*4
            link(1, 10); touched(1)    -> NONE
            """);

        promise("Promise 41: without");
        Document.says("Were a FLOW not there: how much more another one would get by FAIR (may be below 0).", NET + """
            without(4, 0..3)           -> 1 6 -2 0
            count(0)                   -> 5
            """);
        Document.says("Integer.MIN_VALUE: no such FLOWS, alike.", NET + """
            without(0, 5 -1 20)        -> MIN*3
            without(5 -1 20, 0)        -> MIN*3
            without(0, 0)              -> MIN
            """);

        promise("Promise 42: wider");
        Document.says("Were CAPACITY of a LINK by as much more (0 or more; it is 1,000,000 at most then): by how much the least "
            + "LEVEL by FAIR would be more (what 0), all RATES together (1).", NET + """
            wider(3, 0 1, 0)           -> 0 1
            wider(3, 0 1, 1)           -> 0 -1
            wider(0, 3, 0..1)          -> 0 1
            wider(3, 999993 MAX, 0)    -> 3 3
            link(4, 999999); come(9, 16, 1, 0, 1000000); wider(4, 1 2 MAX, 1) -> 1*3
            """);
        Document.says("Integer.MIN_VALUE: others, no FLOWS.", "wider(0, 1, 0..1) -> MIN*2\n" + NET + """
            wider(-1 10, 1, 0)         -> MIN*2
            wider(0, -1, 0)            -> MIN
            wider(0, 1, -1 2)          -> MIN*2
            """);

        promise("Promise 43: tight");
        Document.says("The LINK of which CAPACITY, 100 more (as far as 1,000,000), makes the least LEVEL by FAIR most, the first of "
            + "like ones;", NET + """
            tight()                    -> 3
            route(4, 1); tight()       -> 0
            new
            link(6, 999950); come(1..2, 64, 1, 0, 1000000); tight() -> 6
            new
            come(0..10, 512, 9, 0, 99); come(11, 512, 1, 0, 99); tight() -> 9   // WEIGHTS are 100 together,
            change(11, 0, 2); tight()  -> NONE    // and 101
            link(9, 1); tight()        -> 9
            """);
        Document.says("NONE: no FLOWS, none makes it more.", "tight() -> NONE\n" + NET + """
            link(0, 28); tight()       -> NONE    // LINKS 0 and 3 have 7 both
            link(0, 27); tight()       -> 0
            link(0, 1000000); change(4, 2, 6); tight() -> NONE
            """);

        promise("Promise 44: enough");
        Document.says("The least CAPACITY of a LINK by which all LEVELS by FAIR are as they are.", NET + """
            enough(0..4)               -> 40 25 60 7 0
            link(0, 42); enough(0)     -> 40
            links(0, 0)                -> 42
            """);
        Document.says("NONE: others.", """
            enough(-1 10)              -> NONE*2
            """);
    }

    private static void stormAndCount() {
        promise("Promise 45: storm");
        Document.says("By a SEED (0 .. 999,999) n (1 .. 40) times on paper:", NET + """
            storm(0 999999, 1 40, 2)   -> 4 5 4 13
            storm(-1 1000000, 1, 2)    -> NONE*2
            storm(1, 0 41, 2)          -> NONE*2
            count(0)                   -> 5
            flow(0..4, 7)              -> 0*5
            """);
        Document.says("a DRAW modulo 4:", """
            storm(0..3, 1, 2)          -> 0 1 0 0  // 12,345, 13,448, 14,551 and 15,654 follow 0 to 3
            come(1, 1, 1, 0, 9); storm(0..3, 1, 2) -> 0 2 1 1
            """);
        Document.says("0: a FLOW comes (four DRAWS in this order: NAME is it modulo 1,000,000, LINKS 1 more than it modulo 1,023, "
            + "WEIGHT 1 more than it modulo 9, WANT it modulo 1,000; LEAST 0), if come() would let it;", """
            storm(1, 1, 2)             -> 1       // NAME 845,447, LINKS 516, WEIGHT 7, WANT 46: CAPACITY is 0, as is LEAST
            link(2, 56); link(9, 100); come(1, 4, 1, 0, 8); letter(0); hold(0, true); storm(1, 1, 1) -> 0
            link(2, 50); storm(1, 1, 1) -> 0
            link(2, 49); storm(1, 1, 1) -> 1      // 8 and 7 times 6 are above 49,
            link(9, 41); storm(1, 1, 1) -> 0      // 8 and 7 times 5 are not
            come(845447, 1, 1, 0, 8); storm(1, 1, 2) -> 2
            go(1); storm(1, 1, 2)      -> 2
            come(100..118, 1, 1, 0, 8); storm(1, 1, 2) -> 20
            new
            come(0, 1, 1, 0, 9); storm(638961, 1, 2) -> 2    // 1,000,001 is NAME 1
            come(1, 1, 1, 0, 9); storm(638961, 1, 2) -> 2
            """);
        Document.says("1: of the FLOWS, by their numbers, that of a DRAW modulo how many there are (from 0 on) goes, if there are "
            + "any;", """
            storm(0, 1, 0..2)          -> 1 0 0
            link(0..3, 10); come(1, 1, 1, 0, 10); come(2, 8, 1, 0, 10); come(3, 2, 1, 0, 10); come(4, 4, 1, 0, 10)
            letter(0..3); go(1); hold(0 2 3, true); storm(0 4 8, 1, 2) -> 2*3
            link(2, 9); storm(0 4 8, 1, 1) -> 0 1 1   // of 0, 2, 3 the last goes by 628,841, the second by 495,262,
            link(2, 10); link(1, 9); storm(0 4 8, 1, 1) -> 1 0 1
            link(1, 10); link(0, 9); storm(0 4 8, 1, 1) -> 1 1 0   // the first by 361,683
            """);
        Document.says("else nothing;", """
            come(1, 1, 1, 0, 9); storm(6, 1..6, 2) -> 1*5 0   // 3 2 3 2 2 1 modulo 4
            """);
        Document.says("then a ROUND.", NET + """
            storm(6, 1..5, 0)          -> 0 0 1 2 3
            link(0, 9); rounds(30); link(0, 40); link(0, 8); storm(6, 1, 1) -> 0
            """);
        Document.says("How often it was QUIET (what 0), in how many a LINK was OVERBOOKED behind it (1), how many FLOWS at last "
            + "(2).", NET + """
            rounds(30); storm(6, 5, 0..2) -> 5 0 5
            hold(0..4, true); link(0, 39); storm(6, 5, 0..2) -> 5 5 5
            storm(0, 1, 2)             -> 4
            """);
        Document.says("NONE: others.", """
            storm(-1 1000000, 1, 0)    -> NONE*2
            storm(0, 0 41, 0)          -> NONE*2
            storm(0, 1, -1 3)          -> NONE*2
            """);
        Document.says("A DRAW: s (first SEED) becomes (1,103 s and 12,345) modulo 1,000,003, and is it.", """
            storm(0 1 7 12345, 40, 2)  -> 1 5 2 2
            storm(31337 500000 999998 999999, 40, 2) -> 1 4 3 8
            storm(31337, 1 2 5 10 20, 2) -> 0 0 3 2 6
            """);

        promise("Promise 46: count");
        Document.says("0 FLOWS, 1 HELD up ones, 2 LINKS with FLOWS,", NET + """
            hold(1 3, true); count(0..2) -> 5 2 4
            go(4); go(3); count(0..2)  -> 3 1 3
            go(0); go(1); count(0..2)  -> 1 0 2
            """);
        Document.says("3 LETTERS so far (LOST ones, those by hop() when they begin, too), 4 ROUNDS so far,", NET + """
            rounds(30); count(3..4)    -> 15 3
            lose(0, 1); letter(0); count(3..4) -> 16 3
            hop(0); count(3..4)        -> 17 3
            hop(0); hop(0); hop(0); count(3..4) -> 17 3
            """);
        Document.says("5 MARKS (FLOWS at LINKS),", NET + """
            count(5)                   -> 0
            rounds(3); count(5)        -> 4
            go(3); count(5)            -> 3
            """);
        Document.says("6 .. 10 how many calls were REFUSED by 0 .. 4,", NET + """
            rounds(0); count(6..10)    -> 1 0 0 0 0
            go(7); count(6..10)        -> 1 1 0 0 0
            link(0, 40); count(6..10)  -> 1 1 1 0 0
            change(0, 1, 16); count(6..10) -> 1 1 1 0 1
            come(0..15, 1, 1, 0, 9); count(6..10) -> 1 1 1 1 1
            """);
        Document.says("11 LETTERS LOST, 12 UNDER WAY, 13 how many are to be LOST, at all LINKS.", NET + """
            lose(0, 2); lose(2, 5); count(11..13) -> 0 0 7
            letter(0); hop(2); count(11..13) -> 1 1 6
            hop(2); hop(1); hop(3); count(11..13) -> 4 0 3
            """);
        Document.says("NONE: others.", """
            count(-1 14)               -> NONE*2
            """);
    }

    public static void main(String[] args) {
        linksAndFlowsChange();
        lettersGo();
        asItIs();
        whatIsFair();
        whatLettersTold();
        roundsOnPaper();
        whatWouldBe();
        stormAndCount();
        Due.same("promises", HEADINGS.size(), 46);
        Document.isWhole(HEADINGS.toArray(new String[0]));
        Due.end();
    }
}

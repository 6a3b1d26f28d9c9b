/** Boundary cases of what was seen, and of odds: promises 25 to 28. */
final class SeenEdgesTest extends Edges {
    // Two of these, SLIT at 4 by LENGTH 2, are one LINK that HOLDS 10.
    private static final String LINK_OF_10 = "d2 20 1;";

    public static void main(String[] args) {
        run(SeenEdgesTest.class);
    }

    /** One LINK that HOLDS 10 less WILT, whatever WILT may be. */
    private static DaisyChain tenLessWilt() {
        DaisyChain x = chained(2, LINK_OF_10, "w0;", 4, 2);
        x.minutes(10);
        return x;
    }

    private static DaisyChain busyWithFiveSeen() {
        DaisyChain x = Twins.busy();
        for (int i = 3; i <= 5; i++) {
            due("seen(99, 1)", x.seen(99, 1), i);
        }
        return x;
    }

    // ---- promise 25: "SEEN (tore 1, 0): how much there is. BAD; FULL."

    /** "pulled by v (1 .. 99)" */
    static void promise25PullTooSmallOrTooLarge() {
        refuses("seen(v, 0)", Twins::busy, BAD, beyond(1, 99), (x, v) -> x.seen(v, 0));
        refuses("seen(v, 1)", Twins::busy, BAD, beyond(1, 99), (x, v) -> x.seen(v, 1));
    }

    /** "tore (1), or did not (0)" */
    static void promise25NeitherToreNorNot() {
        refuses("seen(1, tore)", Twins::busy, BAD, beyond(0, 1), (x, tore) -> x.seen(1, tore));
    }

    static void promise25LeastAndMostPull() {
        DaisyChain x = new DaisyChain();
        due("seen(1, 0)", x.seen(1, 0), 1);
        due("seen(99, 1)", x.seen(99, 1), 2);
    }

    /** "SEEN (5 at most)" */
    static void promise25FiveAndNoSixth() {
        DaisyChain x = new DaisyChain();
        for (int i = 1; i <= 5; i++) {
            due("seen(1, 0)", x.seen(1, 0), i);
        }
        due("a sixth", x.seen(1, 0), FULL);
        due("count(2)", x.count(2), 5);
    }

    static void promise25FullChangesNothing() {
        leaves("a sixth", SeenEdgesTest::busyWithFiveSeen, FULL, x -> x.seen(1, 1));
        leaves("a sixth", SeenEdgesTest::busyWithFiveSeen, FULL, x -> x.seen(99, 0));
    }

    static void promise25BadAheadOfFull() {
        leaves("v 0", SeenEdgesTest::busyWithFiveSeen, BAD, x -> x.seen(0, 0));
        leaves("v 100", SeenEdgesTest::busyWithFiveSeen, BAD, x -> x.seen(100, 0));
        leaves("tore 2", SeenEdgesTest::busyWithFiveSeen, BAD, x -> x.seen(1, 2));
    }

    static void promise25NotFullBehindForget() {
        DaisyChain x = busyWithFiveSeen();
        due("forget()", x.forget(), 5);
        due("seen(1, 0)", x.seen(1, 0), 1);
    }

    static void promise25NotFullBehindMeadow() {
        DaisyChain x = busyWithFiveSeen();
        x.clear();
        x.meadow();
        due("seen(1, 0)", x.seen(1, 0), 1);
    }

    /** "IMAGES .. keep NOW ..; nothing else"; seen() is not among those that are UNDONE */
    static void promise25StaysBehindUndoAndBack() {
        DaisyChain x = busyWithFiveSeen();
        x.undo();
        due("behind undo()", x.count(2), 5);
        x.back(0);
        due("behind back()", x.count(2), 5);
        due("a sixth", x.seen(1, 0), FULL);
    }

    // ---- promise 26: "Nothing was SEEN: how much there was."

    static void promise26OfNothing() {
        due("a new object", new DaisyChain().forget(), 0);
        leaves("nothing was SEEN", SeenEdgesTest::tenLessWilt, 0, DaisyChain::forget);
    }

    static void promise26OfFive() {
        DaisyChain x = busyWithFiveSeen();
        due("forget()", x.forget(), 5);
        due("count(2)", x.count(2), 0);
        due("wilts()", x.wilts(), 1023);
        due("forget() again", x.forget(), 0);
    }

    static void promise26WhatCameAheadIsGone() {
        DaisyChain x = tenLessWilt();
        x.seen(99, 0);
        due("not so by any", x.wilts(), 0);
        x.forget();
        x.seen(99, 1);
        due("so by all", x.wilts(), 1023);
    }

    // ---- promise 27: "WILTS, as bits."

    static void promise27NothingWasSeen() {
        due("a new object", new DaisyChain().wilts(), 1023);
        due("with a LINK", tenLessWilt().wilts(), 1023);
    }

    /** "it does if some LINK HOLDS less than v" */
    static void promise27WithoutLinksNothingTears() {
        DaisyChain x = chained(1, LINK_OF_10, "", 19, 2);
        x.seen(99, 0);
        due("it did not", x.wilts(), 1023);
        x.seen(1, 1);
        due("it did", x.wilts(), 0);
    }

    /** "WILT (0 .. 9, as bits)": 10 less WILT is less than v, or is not */
    static void promise27EachWiltAlone() {
        for (int wilt = 0; wilt <= 9; wilt++) {
            DaisyChain x = tenLessWilt();
            x.seen(10 - wilt, 0);
            due("not by " + (10 - wilt), x.wilts(), (2 << wilt) - 1);
            x.seen(11 - wilt, 1);
            due("but by " + (11 - wilt), x.wilts(), 1 << wilt);
        }
    }

    static void promise27LeastAndMostPull() {
        DaisyChain x = tenLessWilt();
        x.seen(1, 0);
        due("10 less 9 is not less than 1", x.wilts(), 1023);
        x.seen(99, 1);
        due("10 is less than 99", x.wilts(), 1023);
        x.seen(11, 1);
        due("10 is less than 11", x.wilts(), 1023);
        x.seen(10, 1);
        due("10 less 0 is not less than 10", x.wilts(), 1022);
    }

    static void promise27AllFiveCount() {
        DaisyChain x = tenLessWilt();
        for (int i = 0; i < 4; i++) {
            x.seen(99, 1);
        }
        due("four", x.wilts(), 1023);
        x.seen(99, 0);
        due("the fifth", x.wilts(), 0);
    }

    static void promise27ASixthDoesNotCount() {
        DaisyChain x = tenLessWilt();
        for (int i = 0; i < 5; i++) {
            x.seen(99, 1);
        }
        x.seen(99, 0);
        due("refused", x.wilts(), 1023);
    }

    /** "HOLDS .. 0 at least" and "(cut)" are of these, too */
    static void promise27WiltedAwayAndCut() {
        DaisyChain x = chained(2, LINK_OF_10, "w0;", 4, 2);
        x.minutes(1);
        x.seen(10, 0);
        due("9 times 1 by 10 is 0", x.wilts(), 1023);
        x.minutes(1);
        x.seen(10, 0);
        due("5 times 2 by 10 is 1", x.wilts(), 31);
        x.minutes(60);
        x.seen(1, 1);
        due("2 times 62 by 10 is 12", x.wilts(), 31 - 3);
    }

    /** "THE CHAIN as it is NOW": what comes later does not matter */
    static void promise27AsItWasThen() {
        DaisyChain x = tenLessWilt();
        x.keep(0);
        x.seen(8, 0);
        due("at once", x.wilts(), 7);
        x.minutes(60);
        due("wilted", x.wilts(), 7);
        x.pulls();
        x.slits(0, 19, 9);
        due("SLIT anew", x.wilts(), 7);
        x.back(0);
        due("back", x.wilts(), 7);
    }

    static void promise27NothingIsChanged() {
        leaves("wilts()", Twins::busy, 2 + 4 + 8 + 16 + 32, DaisyChain::wilts);
    }

    // ---- promise 28: "ODDS: upper (what = 0), lower number (1), in least terms. BAD."

    /** "ODDS by p (0 .. 10)" */
    static void promise28SlipTooSmallOrTooLarge() {
        refuses("odds(p, 0, 0)", Twins::busy, BAD, beyond(0, 10), (x, p) -> x.odds(p, 0, 0));
    }

    /** "k (0 .. 7)" */
    static void promise28ManyTooSmallOrTooLarge() {
        refuses("odds(5, k, 1)", Twins::busy, BAD, beyond(0, 7), (x, k) -> x.odds(5, k, 1));
    }

    static void promise28NothingElseToAsk() {
        refuses("odds(5, 0, what)", Twins::busy, BAD, beyond(0, 1), (x, what) -> x.odds(5, 0, what));
    }

    private static void odds(DaisyChain x, int p, int k, int upper, int lower) {
        due("odds(" + p + ", " + k + ", 0)", x.odds(p, k, 0), upper);
        due("odds(" + p + ", " + k + ", 1)", x.odds(p, k, 1), lower);
    }

    static void promise28NoLink() {
        for (int p = 0; p <= 10; p++) {
            odds(new DaisyChain(), p, 0, 1, 1);
            odds(chained(1, LINK_OF_10, "", 4, 2), p, 0, 1, 1);
            odds(chained(1, LINK_OF_10, "", 4, 2), p, 7, 1, 1);
        }
    }

    static void promise28NeverAndAlways() {
        DaisyChain x = chained(7, LINK_OF_10, "", 4, 2);
        for (int k = 0; k <= 7; k++) {
            odds(x, 0, k, 1, 1);
            odds(x, 10, k, k < 6 ? 0 : 1, 1);
        }
    }

    /** "that k at most do": as many as there are LINKS, and one less */
    static void promise28AsManyAsThereAre() {
        DaisyChain x = chained(3, LINK_OF_10, "", 4, 2);
        odds(x, 3, 1, 91, 100);
        odds(x, 3, 2, 1, 1);
        odds(x, 3, 3, 1, 1);
        odds(x, 3, 7, 1, 1);
        DaisyChain y = chained(7, LINK_OF_10, "", 4, 2);
        odds(y, 5, 5, 63, 64);
        odds(y, 5, 6, 1, 1);
        odds(y, 9, 5, 468559, 1000000);
    }

    static void promise28TheGreatestNumbers() {
        DaisyChain x = chained(7, LINK_OF_10, "", 4, 2);
        odds(x, 1, 0, 531441, 1000000);
        odds(x, 9, 0, 1, 1000000);
        odds(x, 1, 5, 999999, 1000000);
    }

    /** "in least terms" */
    static void promise28LeastTerms() {
        DaisyChain x = chained(2, LINK_OF_10, "", 4, 2);
        odds(x, 5, 0, 1, 2);
        odds(x, 4, 0, 3, 5);
        odds(x, 8, 0, 1, 5);
        odds(x, 2, 0, 4, 5);
        odds(x, 1, 0, 9, 10);
        DaisyChain y = chained(7, LINK_OF_10, "", 4, 2);
        odds(y, 5, 0, 1, 64);
        odds(y, 8, 0, 1, 15625);
        odds(y, 2, 0, 4096, 15625);
    }

    static void promise28NothingIsChanged() {
        leaves("upper", Twins::busy, 91, x -> x.odds(3, 1, 0));
        leaves("lower", Twins::busy, 100, x -> x.odds(3, 1, 1));
    }
}

/** Boundary cases of kinds and images: promises 29 to 33. */
final class KindsEdgesTest extends Edges {
    private static final String THREE = "d4 20 7;d3 15 8;d2 10 6;w3;";
    // what each KIND adds to THE TRACE, with those above it
    private static final long[] ADDED = {1, 11, 101, 1011, 10101, 100001};

    public static void main(String[] args) {
        run(KindsEdgesTest.class);
    }

    // ---- promise 29: "RATE. NO: BAD."

    static void promise29NoSuchKind() {
        refuses("rate(kind, 0)", Twins::busy, NO, beyond(0, 5), (x, kind) -> x.rate(kind, 0));
    }

    static void promise29NoSuchFlower() {
        refuses("rate(0, f)", Twins::busy, NO, noneOf(4), (x, f) -> x.rate(0, f));
        refuses("rate(5, f)", Twins::busy, NO, noneOf(4), (x, f) -> x.rate(5, f));
    }

    static void promise29NeitherKindNorFlower() {
        leaves("rate(-1, -1)", Twins::busy, NO, x -> x.rate(-1, -1));
        leaves("rate(6, 4)", Twins::busy, NO, x -> x.rate(6, 4));
    }

    private static void rates(DaisyChain x, int f, int... due) {
        for (int kind = 0; kind < due.length; kind++) {
            due("rate(" + kind + ", " + f + ")", x.rate(kind, f), due[kind]);
        }
    }

    static void promise29LeastFlower() {
        rates(Check.picked("d1 1 1;", 1), 0, 1, 2, 1, 4, 1, 2);
    }

    static void promise29MostFlower() {
        DaisyChain x = alike(7, "d9 30 60;", "");
        x.picks(6);
        rates(x, 6, 9, 39, 9, 78, 15, 69);
    }

    /** "HEAD up less DRY, 0 if it is not PICKED" */
    static void promise29HeadNotPicked() {
        DaisyChain x = Check.told(THREE);
        x.minutes(60);
        due("HEAD", x.rate(2, 1), 3);
        due("CROWN", x.rate(4, 1), 4);
        x.picks(1);
        due("HEAD, just PICKED", x.rate(2, 1), 3);
        x.minutes(1);
        due("HEAD, a MINUTE DRY", x.rate(2, 1), 2);
        x.undo();
        x.undo();
        due("HEAD, not PICKED any more", x.rate(2, 1), 3);
    }

    /** NO is "What none is, where a number may be below 0": no RATE comes near */
    static void promise29RateBelow0() {
        DaisyChain x = Check.picked("d1 1 1;", 1);
        x.minutes(1);
        due("1 less 1", x.rate(2, 0), 0);
        x.minutes(1);
        due("1 less 2", x.rate(2, 0), -1);
        due("and its number", x.rate(4, 0), -1);
    }

    static void promise29MostDry() {
        DaisyChain x = Check.picked("d1 1 1;", 1);
        untilTheLastMinute(x);
        due("1 less 600", x.rate(2, 0), -599);
        due("and its number", x.rate(4, 0), -599);
    }

    // ---- promise 30: "An IMAGE is kept: THE MINUTE. BAD."

    /** "IMAGES 0, 1" */
    static void promise30NoSuchImage() {
        refuses("keep", Twins::busy, BAD, beyond(0, 1), DaisyChain::keep);
    }

    static void promise30FirstAndLastMinute() {
        DaisyChain x = new DaisyChain();
        due("at first", x.keep(0), 0);
        untilTheLastMinute(x);
        due("at last", x.keep(1), 600);
        due("back to the first", x.back(0), 0);
        due("back to the last", x.back(1), 600);
    }

    static void promise30OneIsNotTheOther() {
        DaisyChain x = Check.picked(THREE, 1);
        x.keep(1);
        due("back(0)", x.back(0), STATE);
        x.minutes(5);
        x.keep(0);
        due("back(1)", x.back(1), 0);
        due("back(0)", x.back(0), 5);
    }

    static void promise30KeptAnew() {
        DaisyChain x = Check.picked(THREE, 1);
        x.keep(0);
        x.minutes(5);
        due("keep(0)", x.keep(0), 5);
        x.minutes(5);
        due("back(0)", x.back(0), 5);
    }

    /** Kept again at the same NOW, nothing at all is changed. */
    static void promise30NothingElseIsChanged() {
        leaves("keep(0)", () -> {
            DaisyChain x = Twins.busy();
            due("keep(0)", x.keep(0), 13);
            return x;
        }, 13, x -> x.keep(0));
    }

    /** What is done behind keep() does not come into the IMAGE. */
    static void promise30TheImageStays() {
        DaisyChain x = Check.told(THREE);
        x.keep(0);
        x.picks(0);
        x.slits(0, 5, 3);
        x.threads(0);
        x.water(1);
        x.minutes(9);
        due("back(0)", x.back(0), 0);
        for (int what = 0; what <= 6; what++) {
            due("now(" + what + ")", x.now(what), 0);
        }
        due("PLACE", x.flower(0, 5), 0);
        due("LENGTH", x.flower(0, 6), 0);
    }

    // ---- promise 31: "All of that becomes as an IMAGE has it: THE MINUTE. BAD; STATE: none was kept."

    static void promise31NoSuchImage() {
        refuses("back", Twins::busy, BAD, beyond(0, 1), DaisyChain::back);
    }

    static void promise31NoneWasKept() {
        leaves("back(0)", () -> Check.picked(THREE, 3), STATE, x -> x.back(0));
        leaves("back(1)", () -> Check.picked(THREE, 3), STATE, x -> x.back(1));
        leaves("the other one was", KindsEdgesTest::firstKept, STATE, x -> x.back(1));
    }

    static void promise31BadAheadOfState() {
        leaves("back(2)", () -> Check.picked(THREE, 3), BAD, x -> x.back(2));
        leaves("back(-1)", () -> Check.picked(THREE, 3), BAD, x -> x.back(-1));
    }

    private static DaisyChain firstKept() {
        DaisyChain x = Check.picked(THREE, 3);
        x.minutes(4);
        due("keep(0)", x.keep(0), 4);
        return x;
    }

    /** "(nothing can be UNDONE behind back())" */
    static void promise31NothingCanBeUndone() {
        DaisyChain x = Twins.busy();
        due("ahead of it", x.now(6), 10);
        due("back(1)", x.back(1), 7);
        due("now(6)", x.now(6), 0);
        due("undo()", x.undo(), STATE);
        x.minutes(1);
        due("what is done behind it", x.undo(), 0);
        due("THE MINUTE", x.now(0), 7);
    }

    static void promise31Twice() {
        DaisyChain x = firstKept();
        x.minutes(1);
        due("back(0)", x.back(0), 4);
        due("back(0) at once", x.back(0), 4);
        x.minutes(1);
        x.picks(0);
        due("back(0) later", x.back(0), 4);
        due("DRY", x.flower(0, 4), 4);
    }

    /** "(THE MINUTE, WATER, what is PICKED, DRY, SLIT, THE CHAIN)" */
    static void promise31AllOfThat() {
        DaisyChain x = Twins.busy();
        due("back(1)", x.back(1), 7);
        due("WATER", x.now(1), 1);
        due("PICKED", x.now(2), 7);
        due("FLOWERS of THE CHAIN", x.now(3), 3);
        due("DRY", x.flower(0, 4), 7);
        due("SLIT since", x.flower(2, 5), 0);
        due("back(0)", x.back(0), 0);
        due("WATER", x.now(1), 0);
        due("PICKED", x.now(2), 3);
        due("FLOWERS of THE CHAIN", x.now(3), 1);
        due("DRY", x.flower(0, 4), 0);
        due("not PICKED", x.flower(2, 4), NONE);
        due("SLIT since", x.flower(1, 7), NONE);
    }

    static void promise31OthersInTheChainMeanwhile() {
        DaisyChain x = chained(2, "d1 9 1;", "", 1, 1);
        x.keep(0);
        x.pulls();
        x.pulls();
        x.threads(1);
        x.threads(0);
        due("link(0) meanwhile", x.link(0), 1);
        x.keep(1);
        x.back(0);
        due("link(0)", x.link(0), 0);
        due("link(1)", x.link(1), 1);
        x.back(1);
        due("link(0) of the other IMAGE", x.link(0), 1);
        due("link(1) of the other IMAGE", x.link(1), 0);
    }

    /** "nothing else": the text, what is told, SEEN and THE TRACE are in no IMAGE */
    static void promise31NothingElse() {
        DaisyChain x = Twins.busy();
        x.back(0);
        due("letters", x.count(3), 7);
        due("FLOWERS", x.count(0), 4);
        due("WILT", x.count(1), 3);
        due("SEEN", x.count(2), 2);
        due("wilts()", x.wilts(), 62);
        due("trace()", x.trace(), 10101);
    }

    /** "IMAGES are gone"; but not by a text with a FAULT */
    static void promise31GoneWhenReadAnew() {
        DaisyChain x = Twins.busy();
        due("a FAULT", x.meadow(), -16);
        due("back(0)", x.back(0), 0);
        x.clear();
        due("meadow()", x.meadow(), 0);
        due("back(0)", x.back(0), STATE);
        due("back(1)", x.back(1), STATE);
        due("keep(1)", x.keep(1), 0);
        due("back(1), kept anew", x.back(1), 0);
    }

    // ---- promise 32: count

    static void promise32NothingElseToAsk() {
        refuses("count", Twins::busy, BAD, beyond(0, 3), DaisyChain::count);
    }

    static void promise32LeastOfAll() {
        DaisyChain x = Check.told("w0;");
        for (int what = 0; what <= 3; what++) {
            due("count(" + what + ")", x.count(what), 0);
        }
    }

    static void promise32MostOfAll() {
        DaisyChain x = alike(7, "d1 1 1;", "w9;");
        for (int i = 0; i < 6; i++) {
            x.seen(1, 0);
        }
        for (int i = 0; i <= MOST_LETTERS; i++) {
            x.type('d');
        }
        due("FLOWERS", x.count(0), 7);
        due("WILT", x.count(1), 9);
        due("SEEN", x.count(2), 5);
        due("letters", x.count(3), 200);
    }

    static void promise32NothingIsChanged() {
        leaves("count(3)", Twins::busy, 7, x -> x.count(3));
    }

    // ---- promise 33: "THE TRACE."

    /** "THE TRACE, 0 at first" */
    static void promise33AtFirst() {
        due("a new object", new DaisyChain().trace(), 0);
        due("a new meadow", Check.told(THREE).trace(), 0);
    }

    /** "as often as rate() asks that body: each once" */
    static void promise33EachKindOnce() {
        for (int kind = 0; kind < ADDED.length; kind++) {
            DaisyChain x = Check.told(THREE);
            x.rate(kind, 0);
            due("KIND " + kind + ", not PICKED", x.trace(), ADDED[kind]);
            x.picks(0);
            x.rate(kind, 0);
            due("KIND " + kind + ", PICKED", x.trace(), 2 * ADDED[kind]);
        }
    }

    static void promise33RefusedRatesAddNothing() {
        DaisyChain x = Check.told(THREE);
        x.rate(-1, 0);
        x.rate(6, 0);
        x.rate(0, -1);
        x.rate(5, 3);
        due("trace()", x.trace(), 0);
    }

    static void promise33OtherCallsAddNothing() {
        DaisyChain x = Check.picked(THREE, 3);
        x.rate(5, 0);
        x.keep(0);
        x.undo();
        due("behind undo()", x.trace(), 100001);
        x.back(0);
        due("behind back()", x.trace(), 100001);
        x.longest(0, 0);
        due("behind what is asked", x.trace(), 100001);
        x.meadow();
        due("read anew", x.trace(), 100001);
    }

    /** "An object is used for at most 512 calls": by none is it more than by rates of BUD */
    static void promise33TheMostThatCanBe() {
        DaisyChain x = new DaisyChain();
        String text = "d1 1 1;";
        Check.type(x, text);
        due("meadow()", x.meadow(), 1);
        int rates = MOST_CALLS - text.length() - 2;
        for (int i = 0; i < rates; i++) {
            due("rate(5, 0)", x.rate(5, 0), 2);
        }
        due("trace() as the last call", x.trace(), rates * 100001L);
    }

    static void promise33NothingIsChanged() {
        leaves("trace()", Twins::busy, 10101, DaisyChain::trace);
    }
}

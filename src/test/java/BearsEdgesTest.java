/** Boundary cases of what THE CHAIN bears: promises 15 to 20. */
final class BearsEdgesTest extends Edges {
    // HOLDS 7 less PLACE if it is SLIT by LENGTH 1
    private static final String THIN = "d1 30 1;";

    public static void main(String[] args) {
        run(BearsEdgesTest.class);
    }

    /** PICKED and SLIT, none of them THREADED. */
    private static DaisyChain slitAlone(String text, int flowers, int place, int length) {
        DaisyChain x = Check.picked(text, flowers);
        for (int f = 0; f < flowers; f++) {
            x.slits(f, place, length);
        }
        return x;
    }

    // ---- promise 15: "WEAKEST: the LINK (what = 0), what it HOLDS (1); NONE. BAD."

    static void promise15NothingElseToAsk() {
        refuses("weakest", Twins::busy, BAD, beyond(0, 1), DaisyChain::weakest);
        due("without a CHAIN", new DaisyChain().weakest(2), BAD);
    }

    /** "LINKS are all FLOWERS of THE CHAIN but the last one" */
    static void promise15NoLink() {
        DaisyChain x = slitAlone(THIN, 1, 1, 1);
        due("no CHAIN, which", x.weakest(0), NONE);
        due("no CHAIN, how much", x.weakest(1), NONE);
        x.threads(0);
        due("one FLOWER, which", x.weakest(0), NONE);
        due("one FLOWER, how much", x.weakest(1), NONE);
    }

    static void promise15OneLink() {
        DaisyChain x = chained(2, THIN, "w0;", 2, 1);
        due("which", x.weakest(0), 0);
        due("how much", x.weakest(1), 5);
    }

    /** "of several the first" */
    static void promise15AllAlike() {
        DaisyChain x = chained(7, THIN, "w0;", 2, 1);
        due("which", x.weakest(0), 0);
        due("how much", x.weakest(1), 5);
    }

    static void promise15HoldsNothing() {
        DaisyChain x = chained(3, THIN, "w0;", 29, 1);
        due("which", x.weakest(0), 0);
        due("how much", x.weakest(1), 0);
    }

    /** The last LINK counts, the last FLOWER does not. */
    static void promise15TheLastLink() {
        DaisyChain x = slitAlone(THIN.repeat(7) + "w0;", 7, 2, 1);
        x.slits(5, 3, 1);
        x.slits(6, 7, 1);
        for (int f = 0; f < 7; f++) {
            x.threads(f);
        }
        due("which", x.weakest(0), 5);
        due("how much", x.weakest(1), 4);
        x.pulls();
        due("without it, which", x.weakest(0), 0);
    }

    /** "as how many-th, 0 the first": not which FLOWER */
    static void promise15ByPlaceInTheChain() {
        DaisyChain x = slitAlone(THIN.repeat(3) + "w0;", 3, 2, 1);
        x.slits(0, 3, 1);
        x.threads(2);
        x.threads(0);
        x.threads(1);
        due("which", x.weakest(0), 1);
    }

    /** NOW: neither a MINUTE too early nor a MINUTE too late; 9 by 10 is cut, 10 by 10 is 1 */
    static void promise15AsItIsNow() {
        DaisyChain x = Check.told(THIN.repeat(3) + "w1;");
        x.picks(1);
        x.minutes(9);
        x.picks(0);
        x.picks(2);
        x.slits(0, 2, 1);
        x.slits(1, 2, 1);
        for (int f = 0; f < 3; f++) {
            x.threads(f);
        }
        due("9 and 0 DRY: alike yet", x.weakest(0), 0);
        x.minutes(1);
        due("10 and 1 DRY", x.weakest(0), 1);
        x.minutes(8);
        due("18 and 9 DRY", x.weakest(0), 1);
        x.minutes(1);
        due("19 and 10 DRY: alike again", x.weakest(0), 0);
    }

    static void promise15NothingIsChanged() {
        leaves("weakest(0)", Twins::busy, 1, x -> x.weakest(0));
        leaves("weakest(1)", Twins::busy, 12, x -> x.weakest(1));
    }

    // ---- promise 16: "HUNG; NONE."

    static void promise16NoLink() {
        DaisyChain x = slitAlone(THIN, 1, 29, 1);
        due("no CHAIN", x.hung(), NONE);
        x.threads(0);
        due("one FLOWER", x.hung(), NONE);
    }

    /** "the first one that HOLDS less than that" */
    static void promise16JustAsMuch() {
        due("HOLDS 1, bears 1", chained(2, THIN, "w0;", 6, 1).hung(), NONE);
        due("HOLDS 0, bears 1", chained(2, THIN, "w0;", 7, 1).hung(), 0);
    }

    static void promise16OfSeven() {
        due("HOLDS 6, bears 6", chained(7, THIN, "w0;", 1, 1).hung(), NONE);
        due("HOLDS 5, bears 6", chained(7, THIN, "w0;", 2, 1).hung(), 0);
    }

    static void promise16TheMostThatIsBorne() {
        due("HOLDS 54, bears 54", chained(7, "d9 30 1;", "w0;", 9, 9).hung(), NONE);
        due("HOLDS 53, bears 54", chained(7, "d9 30 1;", "w0;", 10, 9).hung(), 0);
    }

    static void promise16TheLastLink() {
        DaisyChain x = slitAlone(THIN.repeat(7) + "w0;", 7, 1, 1);
        x.slits(5, 7, 1);
        for (int f = 0; f < 7; f++) {
            x.threads(f);
        }
        due("the sixth one HOLDS 0, bears 1", x.hung(), 5);
        x.pulls();
        due("it is the last one now", x.hung(), NONE);
    }

    static void promise16TheFirstOfSeveral() {
        DaisyChain x = slitAlone(THIN.repeat(4) + "w0;", 4, 29, 1);
        x.slits(0, 1, 1);
        for (int f = 0; f < 4; f++) {
            x.threads(f);
        }
        due("the second and the third one HOLD 0", x.hung(), 1);
    }

    static void promise16TearsByAMinute() {
        DaisyChain x = chained(2, THIN, "w1;", 5, 1);
        x.minutes(19);
        due("HOLDS 1, bears 1", x.hung(), NONE);
        x.minutes(1);
        due("HOLDS 0, bears 1", x.hung(), 0);
    }

    static void promise16NothingIsChanged() {
        leaves("hung()", Twins::busy, NONE, DaisyChain::hung);
    }

    // ---- promise 17: "IN TIME; NONE. BAD."

    /** "less than v (1 .. 99)" */
    static void promise17PullTooSmallOrTooLarge() {
        refuses("inTime", Twins::busy, BAD, beyond(1, 99), DaisyChain::inTime);
        due("without a CHAIN", new DaisyChain().inTime(0), BAD);
        due("without a CHAIN", new DaisyChain().inTime(100), BAD);
    }

    static void promise17NoLink() {
        DaisyChain x = slitAlone(THIN, 1, 29, 1);
        due("no CHAIN", x.inTime(99), NONE);
        x.threads(0);
        due("one FLOWER", x.inTime(99), NONE);
        due("one FLOWER", x.inTime(1), NONE);
    }

    static void promise17LeastAndMostPull() {
        DaisyChain x = chained(2, "d9 30 1;", "w9;", 1, 9);
        due("HOLDS 62, by 99", x.inTime(99), 0);
        due("62 less 9 times 69 by 10, by 1", x.inTime(1), 69);
        due("HOLDS 0, by 1", chained(2, THIN, "w0;", 7, 1).inTime(1), 0);
    }

    static void promise17AtOnceOrNot() {
        DaisyChain x = chained(2, THIN, "w1;", 2, 1);
        due("HOLDS 5, by 6", x.inTime(6), 0);
        due("HOLDS 5, by 5", x.inTime(5), 10);
        x.minutes(9);
        due("a MINUTE ahead", x.inTime(5), 1);
        x.minutes(1);
        due("HOLDS 4, by 5", x.inTime(5), 0);
    }

    /** "in how many MINUTES (0 .. 400)" */
    static void promise17MinuteNumber400() {
        DaisyChain x = chained(2, "d5 30 1;", "w1;", 2, 5);
        due("33 less 330 by 10, by 1", x.inTime(1), 330);
        DaisyChain y = Check.picked("d5 30 1;d1 1 1;w1;", 2);
        due("HOLDS 41", y.slits(0, 6, 1), 41);
        y.threads(0);
        y.threads(1);
        due("41 less 40, by 2", y.inTime(2), 400);
        due("41 less 40, by 1", y.inTime(1), NONE);
        y.minutes(9);
        due("401 would do", y.inTime(1), NONE);
        y.minutes(1);
        due("400 do", y.inTime(1), 400);
    }

    static void promise17WiltOf0() {
        DaisyChain x = chained(2, THIN, "w0;", 2, 1);
        due("by 5", x.inTime(5), NONE);
        due("by 6", x.inTime(6), 0);
    }

    /** "without WATER" */
    static void promise17AsIfThereWasNoWater() {
        DaisyChain x = chained(2, THIN, "w1;", 2, 1);
        x.water(1);
        due("by 5", x.inTime(5), 10);
        due("WATER stays", x.now(1), 1);
    }

    /** "600 at most" is of THE MINUTE; what is asked goes 400 beyond it */
    static void promise17AtTheLastMinute() {
        DaisyChain x = alike(2, THIN, "w1;");
        untilTheLastMinute(x);
        x.picks(0);
        x.picks(1);
        x.slits(0, 2, 1);
        x.threads(0);
        x.threads(1);
        due("by 5", x.inTime(5), 10);
        due("by 1", x.inTime(1), 50);
    }

    static void promise17NothingIsChanged() {
        leaves("inTime(1)", Twins::busy, 39, x -> x.inTime(1));
        leaves("inTime(99)", Twins::busy, 0, x -> x.inTime(99));
    }

    // ---- promise 18: "PROPS: how many (what = 0), which (1). BAD."

    static void promise18NothingElseToAsk() {
        refuses("props", Twins::busy, BAD, beyond(0, 1), DaisyChain::props);
        due("without a CHAIN", new DaisyChain().props(2), BAD);
    }

    private static void props(String what, DaisyChain x, int many, int which) {
        due(what + ", how many", x.props(0), many);
        due(what + ", which", x.props(1), which);
    }

    /** "0 without a CHAIN" */
    static void promise18NoChain() {
        props("a new object", new DaisyChain(), 0, 0);
        props("not THREADED", slitAlone(THIN, 1, 1, 1), 0, 0);
    }

    /** "the first one among them" */
    static void promise18OneFlower() {
        props("one FLOWER", chained(1, THIN, "w0;", 29, 1), 1, 1);
    }

    /** "no LINK bears more than it HOLDS" */
    static void promise18JustAsMuch() {
        props("HOLDS 1, bears 1", chained(2, THIN, "w0;", 6, 1), 1, 1);
        props("HOLDS 0, bears 1", chained(2, THIN, "w0;", 7, 1), 2, 3);
    }

    static void promise18OneIsEnoughForSeven() {
        props("HOLD 6 and bear 6", chained(7, THIN, "w0;", 1, 1), 1, 1);
        props("HOLD 54 and bear 54", chained(7, "d9 30 1;", "w0;", 9, 9), 1, 1);
    }

    static void promise18AllAreNeeded() {
        props("seven that HOLD 0", chained(7, THIN, "w0;", 29, 1), 7, 127);
    }

    /** "of as few the least" */
    static void promise18TheLeastOfAsFew() {
        props("HOLD 5 and bear 6: any second one would do", chained(7, THIN, "w0;", 2, 1), 2, 3);
        props("HOLD 1: two, two, two and one", chained(7, THIN, "w0;", 6, 1), 4, 1 + 2 + 8 + 32);
    }

    /** "up to the next one that is hung (that one not)" */
    static void promise18TheNextHungIsNotBorne() {
        DaisyChain x = slitAlone(THIN.repeat(3) + "w0;", 3, 1, 1);
        x.slits(1, 7, 1);
        for (int f = 0; f < 3; f++) {
            x.threads(f);
        }
        props("the second one HOLDS 0: the third one is hung", x, 2, 1 + 4);
    }

    /** "by places in THE CHAIN" */
    static void promise18ByPlaces() {
        DaisyChain x = slitAlone(THIN.repeat(4) + "w0;", 4, 1, 1);
        x.slits(3, 7, 1);
        x.threads(3);
        x.threads(2);
        x.threads(0);
        props("FLOWER 3 HOLDS 0 at place 0", x, 2, 3);
    }

    static void promise18NothingIsChanged() {
        leaves("props(0)", Twins::busy, 1, x -> x.props(0));
        leaves("props(1)", Twins::busy, 1, x -> x.props(1));
    }

    // ---- promise 19: "RING."

    /** "and there are 2 or more" */
    static void promise19FewerThanTwo() {
        DaisyChain x = slitAlone(THIN.repeat(2), 2, 1, 1);
        due("no CHAIN", x.ring(), 0);
        x.threads(0);
        due("one, whose slit is long enough", x.ring(), 0);
        x.threads(1);
        due("two", x.ring(), 1);
    }

    static void promise19Seven() {
        due("seven", chained(7, THIN, "", 1, 1).ring(), 1);
    }

    /** "if the last one is SLIT, not OPEN" */
    static void promise19NotSlitOrOpen() {
        DaisyChain x = Check.picked("d2 20 1;d2 10 1;", 2);
        x.slits(0, 5, 2);
        x.threads(0);
        x.threads(1);
        due("not SLIT", x.ring(), 0);
        x.slits(1, 9, 2);
        due("9 and 2 of 10", x.ring(), 0);
        x.slits(1, 8, 2);
        due("8 and 2 of 10", x.ring(), 1);
    }

    /** "as LONG (LENGTH) as the first one's THICK at least" */
    static void promise19LengthAndThick() {
        DaisyChain x = Check.picked("d5 20 1;d2 20 1;", 2);
        x.slits(0, 5, 2);
        x.threads(0);
        x.threads(1);
        x.slits(1, 5, 4);
        due("4 for 5", x.ring(), 0);
        x.slits(1, 5, 5);
        due("5 for 5", x.ring(), 1);
        x.slits(1, 5, 9);
        due("9 for 5", x.ring(), 1);
    }

    static void promise19ThoughItHoldsNothing() {
        DaisyChain x = chained(2, THIN, "", 29, 1);
        due("HOLDS of the last one", x.flower(1, 7), 0);
        due("ring()", x.ring(), 1);
    }

    static void promise19NothingIsChanged() {
        leaves("ring()", Twins::busy, 0, DaisyChain::ring);
    }

    // ---- promise 20: "LOVES."

    static void promise20NoChain() {
        due("a new object", new DaisyChain().loves(), 0);
        due("PICKED alone", Check.picked("d1 1 1;", 1).loves(), 0);
    }

    static void promise20LeastAndMostPetals() {
        due("1", chained(1, "d1 2 1;", "", 1, 1).loves(), 1);
        due("59", chained(1, "d1 2 59;", "", 1, 1).loves(), 1);
        due("60", chained(1, "d1 2 60;", "", 1, 1).loves(), 0);
        due("7 times 60", chained(7, "d1 2 60;", "", 1, 1).loves(), 0);
        due("7 times 59", chained(7, "d1 2 59;", "", 1, 1).loves(), 1);
        due("6 times 59", chained(6, "d1 2 59;", "", 1, 1).loves(), 0);
    }

    /** "of all FLOWERS of THE CHAIN": the last one, too */
    static void promise20TheLastOneToo() {
        DaisyChain x = slitAlone("d1 9 2;d1 9 3;", 2, 1, 1);
        x.threads(0);
        due("2", x.loves(), 0);
        x.threads(1);
        due("2 and 3", x.loves(), 1);
        x.pulls();
        due("2 again", x.loves(), 0);
    }

    static void promise20NothingIsChanged() {
        leaves("loves()", Twins::busy, 1, DaisyChain::loves);
    }
}

/** Boundary cases of what is done: promises 8 to 14. */
final class DoneEdgesTest extends Edges {
    private static final String THREE = "d4 20 7;d3 15 8;d2 10 6;w3;";

    public static void main(String[] args) {
        run(DoneEdgesTest.class);
    }

    // ---- promise 8: "PICKED: how many are. BAD; STATE: it is."

    static void promise8NoSuchFlower() {
        refuses("picks", Twins::busy, BAD, noneOf(4), DaisyChain::picks);
    }

    static void promise8NoFlowersAtAll() {
        due("picks(0)", new DaisyChain().picks(0), BAD);
    }

    static void promise8ItIsPicked() {
        leaves("picks(0)", Twins::busy, STATE, x -> x.picks(0));
        leaves("picks(2)", Twins::busy, STATE, x -> x.picks(2));
    }

    static void promise8FirstToSeventh() {
        DaisyChain x = alike(7, "d1 1 1;", "");
        for (int f = 0; f < 7; f++) {
            due("picks(" + f + ")", x.picks(f), f + 1);
            due("picks(" + f + ") again", x.picks(f), STATE);
        }
    }

    static void promise8AtTheLastMinute() {
        DaisyChain x = Check.told(THREE);
        untilTheLastMinute(x);
        due("picks(0)", x.picks(0), 1);
        due("DRY", x.flower(0, 4), 0);
    }

    /** PICKED, UNDONE and PICKED again, it is DRY from then on alone */
    static void promise8PickedAgain() {
        DaisyChain x = Check.told(THREE);
        x.picks(0);
        x.minutes(9);
        x.undo();
        x.undo();
        x.minutes(5);
        due("picks(0)", x.picks(0), 1);
        due("DRY", x.flower(0, 4), 0);
    }

    // ---- promise 9: "SLIT: what it HOLDS. BAD (PLACE, LENGTH); STATE: it is not PICKED, it is a LINK."

    static void promise9NoSuchFlower() {
        refuses("slits(f, 1, 1)", Twins::busy, BAD, noneOf(4), (x, f) -> x.slits(f, 1, 1));
        due("no FLOWERS at all", new DaisyChain().slits(0, 1, 1), BAD);
    }

    /** "at a PLACE (1 .. LONG inches from the head)" */
    static void promise9PlaceTooSmallOrTooLarge() {
        refuses("slits(2, place, 2)", Twins::busy, BAD, beyond(1, 10), (x, place) -> x.slits(2, place, 2));
    }

    static void promise9LeastAndMostPlace() {
        DaisyChain x = Check.picked(THREE, 1);
        due("PLACE 1", x.slits(0, 1, 1), 40 - 3 - 1);
        due("PLACE 19", x.slits(0, 19, 1), 40 - 3 - 19);
        due("PLACE is LONG: OPEN", x.slits(0, 20, 1), 0);
        due("it is SLIT all the same", x.flower(0, 5), 20);
        due("PLACE beyond LONG", x.slits(0, 21, 1), BAD);
    }

    /** "of a LENGTH (1 .. 9)" */
    static void promise9LengthTooSmallOrTooLarge() {
        refuses("slits(2, 3, length)", Twins::busy, BAD, beyond(1, 9), (x, length) -> x.slits(2, 3, length));
    }

    static void promise9LeastAndMostLength() {
        DaisyChain x = Check.picked(THREE, 1);
        due("LENGTH 1", x.slits(0, 2, 1), 40 - 3 - 2);
        due("LENGTH 9", x.slits(0, 2, 9), 40 - 27 - 2);
        due("LENGTH 9, as it is", x.flower(0, 6), 9);
    }

    static void promise9PlaceAndLengthWrapAround() {
        leaves("MOST and MOST", Twins::busy, BAD, x -> x.slits(2, MOST, MOST));
        leaves("LEAST and LEAST", Twins::busy, BAD, x -> x.slits(2, LEAST, LEAST));
        leaves("1 and 9 but for 256", Twins::busy, BAD, x -> x.slits(2, 257, 265));
    }

    /** "OPEN, if PLACE and LENGTH together are more than LONG" */
    static void promise9JustNotOpen() {
        DaisyChain x = Check.picked(THREE, 1);
        due("11 and 9 of 20", x.slits(0, 11, 9), 40 - 27 - 11);
        due("12 and 9 of 20", x.slits(0, 12, 9), 0);
        due("17 and 3 of 20", x.slits(0, 17, 3), 40 - 9 - 17);
        due("17 and 4 of 20", x.slits(0, 17, 4), 0);
    }

    static void promise9StalkOfOneInch() {
        DaisyChain x = Check.picked("d9 1 1;", 1);
        due("PLACE 1 is OPEN", x.slits(0, 1, 1), 0);
        due("PLACE 2", x.slits(0, 2, 1), BAD);
        due("PLACE", x.flower(0, 5), 1);
        due("HOLDS, as it is SLIT", x.flower(0, 7), 0);
    }

    static void promise9HoldsMostAndLeast() {
        DaisyChain x = Check.picked("d9 30 1;d1 30 1;", 2);
        due("90 - 3 - 1", x.slits(0, 1, 1), 86);
        due("10 - 3 - 7", x.slits(1, 7, 1), 0);
        due("10 - 27 - 21", x.slits(1, 21, 9), 0);
    }

    /** "STATE: it is not PICKED" */
    static void promise9NotPicked() {
        leaves("slits(3, 1, 1)", Twins::busy, STATE, x -> x.slits(3, 1, 1));
    }

    /** "(Who is in THE CHAIN, but for the last one, is not SLIT anew.)" */
    static void promise9ALink() {
        leaves("the first LINK", Twins::busy, STATE, x -> x.slits(0, 1, 1));
        leaves("the last LINK", Twins::busy, STATE, x -> x.slits(1, 1, 1));
        leaves("as it is SLIT already", Twins::busy, STATE, x -> x.slits(0, 10, 3));
    }

    static void promise9TheLastOneIsNoLink() {
        DaisyChain x = Check.picked(THREE, 3);
        x.threads(0);
        due("one alone", x.slits(0, 10, 3), 21);
        x.threads(1);
        due("a LINK", x.slits(0, 9, 3), STATE);
        due("the last of two", x.slits(1, 9, 2), 15);
        x.pulls();
        due("no LINK any more", x.slits(0, 9, 3), 22);
        due("nor in THE CHAIN", x.slits(1, 8, 2), 16);
    }

    static void promise9BadAheadOfState() {
        leaves("not PICKED, PLACE 0", Twins::busy, BAD, x -> x.slits(3, 0, 1));
        leaves("not PICKED, PLACE beyond LONG", Twins::busy, BAD, x -> x.slits(3, 13, 1));
        leaves("not PICKED, LENGTH 10", Twins::busy, BAD, x -> x.slits(3, 1, 10));
        leaves("a LINK, PLACE 0", Twins::busy, BAD, x -> x.slits(0, 0, 1));
        leaves("a LINK, LENGTH 0", Twins::busy, BAD, x -> x.slits(0, 1, 0));
    }

    /** "anew, if it was" */
    static void promise9Anew() {
        DaisyChain x = Check.picked(THREE, 1);
        due("OPEN", x.slits(0, 20, 9), 0);
        due("anew", x.slits(0, 1, 1), 36);
        due("PLACE", x.flower(0, 5), 1);
        due("LENGTH", x.flower(0, 6), 1);
        due("HOLDS", x.flower(0, 7), 36);
    }

    // ---- promise 10: "THREADED: INCHES. BAD; STATE: it can not be."

    static void promise10NoSuchFlower() {
        refuses("threads", Twins::busy, BAD, noneOf(4), DaisyChain::threads);
        due("no FLOWERS at all", new DaisyChain().threads(0), BAD);
    }

    static void promise10NotPicked() {
        leaves("threads(3) behind others", Twins::busy, STATE, x -> x.threads(3));
        leaves("as the first one", () -> Check.told(THREE), STATE, x -> x.threads(0));
    }

    /** "not in it" */
    static void promise10InItAlready() {
        leaves("the first one", Twins::busy, STATE, x -> x.threads(0));
        leaves("one between", Twins::busy, STATE, x -> x.threads(1));
        leaves("the last one", Twins::busy, STATE, x -> x.threads(2));
        leaves("the last one, whose slit takes it", DoneEdgesTest::firstSlitFor4, STATE, x -> x.threads(0));
    }

    /** "(as the first one any)" */
    static void promise10AsTheFirstOneAny() {
        DaisyChain x = Check.picked("d9 30 1;d1 1 1;", 2);
        due("not SLIT", x.threads(0), 30);
        x.pulls();
        x.slits(1, 1, 9);
        due("OPEN", x.threads(1), 1);
    }

    /** "if that one is SLIT" */
    static void promise10TheLastOneNotSlit() {
        leaves("threads(1)", DoneEdgesTest::firstAlone, STATE, x -> x.threads(1));
    }

    /** "not OPEN" */
    static void promise10TheLastOneOpen() {
        DaisyChain x = firstAlone();
        x.slits(0, 18, 3);
        due("18 and 3 of 20", x.threads(1), STATE);
        x.slits(0, 17, 3);
        due("17 and 3 of 20", x.threads(1), 17 + 15);
        leaves("threads(1)", DoneEdgesTest::firstOpen, STATE, y -> y.threads(1));
    }

    /** "the LENGTH of its slit is as much as the THICK of the new one at least" */
    static void promise10LengthAndThick() {
        DaisyChain x = firstAlone();
        x.slits(0, 5, 2);
        due("less by one", x.threads(1), STATE);
        x.slits(0, 5, 3);
        due("as much", x.threads(1), 5 + 15);
        x.pulls();
        x.slits(0, 5, 4);
        due("more by one", x.threads(1), 5 + 15);
        x.slits(1, 2, 9);
        due("far more", x.threads(2), 5 + 2 + 10);
        leaves("less by one", DoneEdgesTest::firstSlitFor2, STATE, y -> y.threads(1));
    }

    static void promise10MostThick() {
        DaisyChain x = Check.picked("d9 30 1;d9 30 1;", 2);
        x.threads(0);
        x.slits(0, 21, 8);
        due("8 for 9", x.threads(1), STATE);
        x.slits(0, 21, 9);
        due("9 for 9", x.threads(1), 21 + 30);
    }

    static void promise10ThoughItHoldsNothing() {
        DaisyChain x = Check.picked("d1 30 1;d1 4 1;", 2);
        x.slits(0, 29, 1);
        x.threads(0);
        due("HOLDS 0, but is not OPEN", x.threads(1), 29 + 4);
    }

    static void promise10AllSeven() {
        DaisyChain x = alike(7, "d1 30 1;", "");
        for (int f = 0; f < 7; f++) {
            x.picks(f);
            x.slits(f, 29, 1);
        }
        for (int f = 0; f < 7; f++) {
            due("threads(" + f + ")", x.threads(f), 29 * f + 30);
        }
        for (int f = 0; f < 7; f++) {
            due("threads(" + f + ") again", x.threads(f), STATE);
        }
        due("threads(7)", x.threads(7), BAD);
    }

    private static DaisyChain firstAlone() {
        DaisyChain x = Check.picked(THREE, 3);
        due("threads(0)", x.threads(0), 20);
        return x;
    }

    private static DaisyChain firstOpen() {
        DaisyChain x = firstAlone();
        due("slits(0, 20, 9)", x.slits(0, 20, 9), 0);
        return x;
    }

    private static DaisyChain firstSlitFor2() {
        DaisyChain x = firstAlone();
        due("slits(0, 5, 2)", x.slits(0, 5, 2), 29);
        return x;
    }

    private static DaisyChain firstSlitFor4() {
        DaisyChain x = firstAlone();
        due("slits(0, 5, 4)", x.slits(0, 5, 4), 23);
        return x;
    }

    // ---- promise 11: "PULLED OFF: which. STATE: there is no CHAIN."

    static void promise11NoChain() {
        due("a new object", new DaisyChain().pulls(), STATE);
        leaves("FLOWERS that are PICKED", () -> Check.picked(THREE, 3), STATE, DaisyChain::pulls);
        leaves("all were PULLED OFF", DoneEdgesTest::firstPulledOff, STATE, DaisyChain::pulls);
    }

    private static DaisyChain firstPulledOff() {
        DaisyChain x = firstAlone();
        due("pulls()", x.pulls(), 0);
        return x;
    }

    static void promise11TheOnlyOne() {
        DaisyChain x = firstAlone();
        due("pulls()", x.pulls(), 0);
        due("FLOWERS of THE CHAIN", x.now(3), 0);
        due("INCHES", x.now(4), 0);
        due("it is PICKED yet", x.flower(0, 3), 1);
    }

    static void promise11OfSeven() {
        DaisyChain x = chained(7, "d1 9 1;", "", 1, 1);
        for (int f = 6; f >= 0; f--) {
            due("pulls()", x.pulls(), f);
            due("FLOWERS of THE CHAIN", x.now(3), f);
        }
        due("pulls() of none", x.pulls(), STATE);
    }

    static void promise11TheSlitStays() {
        DaisyChain x = chained(2, "d1 9 1;", "", 1, 1);
        x.pulls();
        due("PLACE", x.flower(1, 5), 1);
        due("LENGTH", x.flower(1, 6), 1);
        due("it may be THREADED again", x.threads(1), 1 + 9);
    }

    // ---- promise 12: "n MINUTES (1 .. 60) go by: which it is. BAD; STATE: it would be later than 600."

    static void promise12TooFewOrTooMany() {
        refuses("minutes", Twins::busy, BAD, beyond(1, 60), DaisyChain::minutes);
        leaves("minutes(-13), back to 0", Twins::busy, BAD, x -> x.minutes(-13));
    }

    static void promise12LeastAndMost() {
        DaisyChain x = new DaisyChain();
        due("minutes(1)", x.minutes(1), 1);
        due("minutes(60)", x.minutes(60), 61);
    }

    static void promise12Until600() {
        DaisyChain x = new DaisyChain();
        untilTheLastMinute(x);
        due("minutes(1)", x.minutes(1), STATE);
        due("minutes(60)", x.minutes(60), STATE);
        due("THE MINUTE", x.now(0), 600);
    }

    /** "later than 600": by the last one that can go by, and by one more */
    static void promise12JustUntil600() {
        DaisyChain x = atMinute(541);
        due("601", x.minutes(60), STATE);
        due("600", x.minutes(59), 600);
        DaisyChain y = atMinute(599);
        due("601", y.minutes(2), STATE);
        due("600", y.minutes(1), 600);
    }

    static void promise12LaterThan600ChangesNothing() {
        leaves("minutes(60)", () -> atMinute(541), STATE, x -> x.minutes(60));
        leaves("minutes(1)", () -> atMinute(600), STATE, x -> x.minutes(1));
    }

    static void promise12BadAheadOfState() {
        DaisyChain x = atMinute(600);
        due("minutes(0)", x.minutes(0), BAD);
        due("minutes(61)", x.minutes(61), BAD);
        due("minutes(MOST)", x.minutes(MOST), BAD);
    }

    private static DaisyChain atMinute(int minute) {
        DaisyChain x = Check.picked(THREE, 1);
        for (int i = 0; i < minute / 60; i++) {
            x.minutes(60);
        }
        if (minute % 60 > 0) {
            x.minutes(minute % 60);
        }
        due("THE MINUTE", x.now(0), minute);
        due("DRY", x.flower(0, 4), minute);
        return x;
    }

    // ---- promise 13: "WATER comes (1), goes (0): whether there was some. BAD."

    static void promise13NeitherComesNorGoes() {
        refuses("water", Twins::busy, BAD, beyond(0, 1), DaisyChain::water);
    }

    static void promise13ComesAndGoes() {
        DaisyChain x = new DaisyChain();
        due("goes, as there was none", x.water(0), 0);
        due("comes", x.water(1), 0);
        due("comes again", x.water(1), 1);
        due("goes", x.water(0), 1);
        due("goes again", x.water(0), 0);
    }

    /** "the latest .. water() that was not refused": one that changes nothing, too */
    static void promise13MayBeUndoneThoughTheSame() {
        DaisyChain x = new DaisyChain();
        x.water(0);
        due("now(6)", x.now(6), 1);
        due("undo()", x.undo(), 0);
        due("WATER", x.now(1), 0);
    }

    static void promise13TheMinuteGoesOnUntil600() {
        DaisyChain x = Check.picked(THREE, 1);
        x.water(1);
        untilTheLastMinute(x);
        due("later than 600", x.minutes(1), STATE);
        due("DRY", x.flower(0, 4), 0);
    }

    // ---- promise 14: "UNDONE: how many more may be. STATE: none."

    static void promise14NoneAtFirst() {
        due("a new object", new DaisyChain().undo(), STATE);
        leaves("a new meadow", () -> Check.told(THREE), STATE, DaisyChain::undo);
    }

    static void promise14One() {
        DaisyChain x = Check.told(THREE);
        x.picks(2);
        due("undo()", x.undo(), 0);
        due("PICKED", x.now(2), 0);
        due("undo() again", x.undo(), STATE);
    }

    /** "(10 are known, older ones are lost)" */
    static void promise14TenAreKnown() {
        DaisyChain x = minutesOneByOne(10);
        for (int more = 9; more >= 0; more--) {
            due("undo()", x.undo(), more);
            due("THE MINUTE", x.now(0), more);
        }
        due("an eleventh", x.undo(), STATE);
    }

    static void promise14TheEleventhIsLost() {
        DaisyChain x = minutesOneByOne(11);
        for (int more = 9; more >= 0; more--) {
            due("undo()", x.undo(), more);
            due("THE MINUTE", x.now(0), more + 1);
        }
        due("an eleventh", x.undo(), STATE);
        due("THE MINUTE stays", x.now(0), 1);
    }

    static void promise14NoneIsLeft() {
        leaves("undo()", () -> {
            DaisyChain x = minutesOneByOne(11);
            for (int i = 0; i < 10; i++) {
                x.undo();
            }
            return x;
        }, STATE, DaisyChain::undo);
    }

    /** Done and UNDONE again and again, over more than ten that are known. */
    static void promise14RoundAndRound() {
        DaisyChain x = minutesOneByOne(25);
        for (int i = 1; i <= 7; i++) {
            due("undo()", x.undo(), 10 - i);
        }
        due("THE MINUTE", x.now(0), 18);
        for (int i = 1; i <= 9; i++) {
            due("minutes(2)", x.minutes(2), 18 + 2 * i);
        }
        due("ten are known", x.now(6), 10);
        for (int i = 1; i <= 9; i++) {
            due("undo()", x.undo(), 10 - i);
            due("THE MINUTE", x.now(0), 36 - 2 * i);
        }
        due("the last of ten", x.undo(), 0);
        due("THE MINUTE", x.now(0), 17);
        due("none", x.undo(), STATE);
    }

    /** "An object is used for at most 512 calls": ten are known to the last of them. */
    static void promise14OverAllCalls() {
        DaisyChain x = new DaisyChain();
        int last = MOST_CALLS - 11;
        for (int i = 1; i <= last; i++) {
            x.water(i / 2 % 2);
        }
        for (int more = 9; more >= 0; more--) {
            due("undo()", x.undo(), more);
        }
        due("WATER, as by the one ahead of the last ten", x.now(1), (last - 10) / 2 % 2);
    }

    static void promise14NotUndoneItself() {
        DaisyChain x = minutesOneByOne(3);
        due("undo()", x.undo(), 2);
        due("undo()", x.undo(), 1);
        due("THE MINUTE", x.now(0), 1);
    }

    /** "that was not refused" */
    static void promise14RefusedOnesAreNotKnown() {
        DaisyChain x = Check.picked(THREE, 1);
        x.picks(0);
        x.picks(3);
        x.slits(0, 0, 1);
        x.slits(1, 1, 1);
        x.threads(1);
        x.threads(-1);
        x.pulls();
        x.minutes(0);
        x.minutes(61);
        x.water(2);
        due("now(6)", x.now(6), 1);
        due("undo()", x.undo(), 0);
        due("PICKED", x.now(2), 0);
    }

    /** "the latest picks(), slits(), threads(), pulls(), minutes(), water()": no other call */
    static void promise14OtherCallsAreNotKnown() {
        DaisyChain x = Check.picked(THREE, 1);
        x.type('x');
        x.clear();
        x.seen(1, 0);
        x.forget();
        x.rate(0, 0);
        x.keep(0);
        x.bestSlit(0, 1, 0);
        x.longest(0, 0);
        x.undo();
        due("none", x.undo(), STATE);
    }

    static void promise14EachOfSix() {
        DaisyChain x = Check.told(THREE);
        x.picks(0);
        x.slits(0, 5, 3);
        x.threads(0);
        x.pulls();
        x.water(1);
        x.minutes(1);
        due("now(6)", x.now(6), 6);
        x.undo();
        due("minutes()", x.now(0), 0);
        x.undo();
        due("water()", x.now(1), 0);
        x.undo();
        due("pulls()", x.link(0), 0);
        x.undo();
        due("threads()", x.link(0), BAD);
        x.undo();
        due("slits()", x.flower(0, 7), NONE);
        x.undo();
        due("picks()", x.flower(0, 4), NONE);
    }

    /** THE CHAIN comes back as it was, though others stood at the same places meanwhile. */
    static void promise14OthersInTheChainMeanwhile() {
        DaisyChain x = chained(3, "d1 9 1;", "", 1, 1);
        for (int i = 0; i < 3; i++) {
            x.pulls();
        }
        for (int f = 2; f >= 0; f--) {
            x.threads(f);
        }
        due("link(0) meanwhile", x.link(0), 2);
        for (int more = 9; more >= 4; more--) {
            due("undo()", x.undo(), more);
        }
        for (int k = 0; k < 3; k++) {
            due("link(" + k + ")", x.link(k), k);
        }
    }

    /** "(nothing can be UNDONE behind back())" */
    static void promise14NoneBehindBack() {
        DaisyChain x = minutesOneByOne(10);
        x.keep(0);
        x.back(0);
        due("undo()", x.undo(), STATE);
        due("THE MINUTE", x.now(0), 10);
    }

    static void promise14NoneBehindMeadow() {
        DaisyChain x = minutesOneByOne(10);
        due("meadow()", x.meadow(), 0);
        due("undo()", x.undo(), STATE);
    }

    private static DaisyChain minutesOneByOne(int many) {
        DaisyChain x = new DaisyChain();
        for (int i = 1; i <= many; i++) {
            due("minutes(1)", x.minutes(1), i);
        }
        return x;
    }
}

/** Boundary cases of how to make a chain: promises 21 to 24. */
final class MakesEdgesTest extends Edges {
    // For a THICK of 1 it HOLDS 7 less PLACE, which is 29 at most.
    private static final String THIN = "d1 30 1;";

    public static void main(String[] args) {
        run(MakesEdgesTest.class);
    }

    private static DaisyChain thin(int many) {
        return Check.picked(THIN.repeat(many) + "w0;", many);
    }

    // ---- promise 21: "BEST SLIT: the PLACE; NONE. BAD; STATE: it is not PICKED."

    static void promise21NoSuchFlower() {
        refuses("bestSlit(f, 1, 0)", Twins::busy, BAD, noneOf(4), (x, f) -> x.bestSlit(f, 1, 0));
        due("no FLOWERS at all", new DaisyChain().bestSlit(0, 1, 0), BAD);
    }

    /** "for a THICK of t (1 .. 9)" */
    static void promise21ThickTooSmallOrTooLarge() {
        refuses("bestSlit(0, t, 0)", Twins::busy, BAD, beyond(1, 9), (x, t) -> x.bestSlit(0, t, 0));
    }

    /** "so that it HOLDS v (0 .. 99) at least" */
    static void promise21HoldTooSmallOrTooLarge() {
        refuses("bestSlit(0, 1, v)", Twins::busy, BAD, beyond(0, 99), (x, v) -> x.bestSlit(0, 1, v));
    }

    static void promise21NotPicked() {
        leaves("bestSlit(3, 1, 0)", Twins::busy, STATE, x -> x.bestSlit(3, 1, 0));
        leaves("though there is none", Twins::busy, STATE, x -> x.bestSlit(3, 9, 99));
    }

    static void promise21BadAheadOfState() {
        leaves("t 0", Twins::busy, BAD, x -> x.bestSlit(3, 0, 0));
        leaves("t 10", Twins::busy, BAD, x -> x.bestSlit(3, 10, 0));
        leaves("v -1", Twins::busy, BAD, x -> x.bestSlit(3, 1, -1));
        leaves("v 100", Twins::busy, BAD, x -> x.bestSlit(3, 1, 100));
    }

    static void promise21LeastAndMostThick() {
        DaisyChain x = Check.picked("d9 30 1;", 1);
        due("t 1", x.bestSlit(0, 1, 0), 29);
        due("t 9", x.bestSlit(0, 9, 0), 21);
    }

    /** "the greatest PLACE by which it is not OPEN; NONE" */
    static void promise21OpenAnywhere() {
        DaisyChain x = Check.picked("d9 9 1;d9 1 1;d9 2 1;", 3);
        due("9 of 9", x.bestSlit(0, 9, 0), NONE);
        due("8 of 9", x.bestSlit(0, 8, 0), 1);
        due("1 of 1", x.bestSlit(1, 1, 0), NONE);
        due("9 of 1", x.bestSlit(1, 9, 0), NONE);
        due("1 of 2", x.bestSlit(2, 1, 0), 1);
        due("2 of 2", x.bestSlit(2, 2, 0), NONE);
    }

    static void promise21JustHolds() {
        DaisyChain x = Check.picked("d9 30 1;", 1);
        due("87 less 29 is 58", x.bestSlit(0, 1, 58), 29);
        due("more than enough", x.bestSlit(0, 1, 57), 29);
        due("87 less 28 is 59", x.bestSlit(0, 1, 59), 28);
        due("87 less 2 is 85", x.bestSlit(0, 1, 85), 2);
        due("87 less 1 is 86", x.bestSlit(0, 1, 86), 1);
        due("87 is too much", x.bestSlit(0, 1, 87), NONE);
        due("99 is too much", x.bestSlit(0, 1, 99), NONE);
    }

    /** HOLDS is "0 at least": a v of 0 asks for nothing */
    static void promise21HoldOf0() {
        DaisyChain x = thin(1);
        due("10 - 27 - 21 is 0", x.bestSlit(0, 9, 0), 21);
        due("by 1", x.bestSlit(0, 9, 1), NONE);
        due("10 - 3 - 6", x.bestSlit(0, 1, 1), 6);
        due("10 - 9 - 1 is 0", x.bestSlit(0, 3, 1), NONE);
        due("10 - 6 - 3", x.bestSlit(0, 2, 1), 3);
    }

    /** "at least NOW" */
    static void promise21WiltedByTenthsCut() {
        DaisyChain x = Check.picked("d2 30 1;w1;", 1);
        due("17 less 7", x.bestSlit(0, 1, 10), 7);
        x.minutes(9);
        due("9 by 10", x.bestSlit(0, 1, 10), 7);
        x.minutes(1);
        due("10 by 10", x.bestSlit(0, 1, 10), 6);
        x.minutes(60);
        due("70 by 10: none is left", x.bestSlit(0, 1, 10), NONE);
    }

    static void promise21WiltedAway() {
        DaisyChain x = Check.picked("d9 30 1;w9;", 1);
        untilTheLastMinute(x);
        due("by 0", x.bestSlit(0, 1, 0), 29);
        due("by 1", x.bestSlit(0, 1, 1), NONE);
    }

    static void promise21WhateverIsSlit() {
        leaves("a LINK", Twins::busy, 17, x -> x.bestSlit(0, 3, 10));
        leaves("none", Twins::busy, NONE, x -> x.bestSlit(0, 3, 99));
    }

    // ---- promise 22: "LONGEST: INCHES (what = 0), FLOWERS (1); NONE: nothing is PICKED. BAD."

    static void promise22HoldTooSmallOrTooLarge() {
        refuses("longest(v, 0)", Twins::busy, BAD, beyond(0, 99), (x, v) -> x.longest(v, 0));
        refuses("longest(v, 1)", Twins::busy, BAD, beyond(0, 99), (x, v) -> x.longest(v, 1));
    }

    static void promise22NothingElseToAsk() {
        refuses("longest(0, what)", Twins::busy, BAD, beyond(0, 1), (x, what) -> x.longest(0, what));
    }

    static void promise22NothingIsPicked() {
        leaves("INCHES", () -> Check.told(THIN), NONE, x -> x.longest(0, 0));
        leaves("FLOWERS", () -> Check.told(THIN), NONE, x -> x.longest(99, 1));
        due("BAD ahead of it", Check.told(THIN).longest(100, 0), BAD);
        due("BAD ahead of it", Check.told(THIN).longest(0, 2), BAD);
    }

    private static void longest(String what, DaisyChain x, int v, int inches, int flowers) {
        due(what + ", INCHES", x.longest(v, 0), inches);
        due(what + ", FLOWERS", x.longest(v, 1), flowers);
    }

    /** "(at least one FLOWER; LONG of the last one)" */
    static void promise22OneFlower() {
        longest("by 0", thin(1), 0, 30, 1);
        longest("by 99", thin(1), 99, 30, 1);
        longest("the least one", Check.picked("d9 1 1;", 1), 0, 1, 1);
    }

    static void promise22SevenFlowers() {
        longest("the most that can be", thin(7), 0, 6 * 29 + 30, 7);
        longest("HOLD 1", thin(7), 1, 6 * 6 + 30, 7);
        longest("HOLD 6", thin(7), 6, 6 * 1 + 30, 7);
        longest("HOLD 7: none is SLIT so", thin(7), 7, 30, 1);
        longest("HOLD 99", thin(7), 99, 30, 1);
    }

    static void promise22StalksOfOneInch() {
        longest("each is OPEN", Check.picked("d1 1 1;".repeat(7), 7), 0, 1, 1);
    }

    /** "of all rows of FLOWERS that are PICKED" */
    static void promise22OnlyWhatIsPicked() {
        DaisyChain x = Check.told("d1 30 1;d1 2 1;d1 30 1;");
        x.picks(1);
        longest("one", x, 0, 2, 1);
        x.picks(2);
        longest("two", x, 0, 29 + 2, 2);
        x.picks(0);
        longest("three", x, 0, 29 + 29 + 2, 3);
    }

    static void promise22TheFirstFlowerBehindOthers() {
        longest("29 and 30", Check.picked("d1 30 1;d9 30 1;", 2), 1, 29 + 30, 2);
        longest("28, 29 and 30", Check.picked("d1 30 1;d2 30 1;d3 30 1;", 3), 0, 28 + 29 + 30, 3);
    }

    /**
     * 0 ahead of 1 is 29 inches, 0 ahead of 2 is 27; 1 HOLDS 1 less PLACE for 2, and 2 is wilted:
     * no PLACE, and none below, makes 0, 1, 2 a row.
     */
    static void promise22NoPlaceNoRow() {
        DaisyChain x = Check.told("d9 30 1;d1 4 1;d3 30 1;w9;");
        x.picks(2);
        x.minutes(60);
        x.picks(0);
        x.picks(1);
        due("nowhere", x.bestSlit(1, 3, 1), NONE);
        longest("HOLD 1", x, 1, 27 + 30, 2);
        longest("HOLD 2", x, 2, 27 + 30, 2);
        due("58 inches", x.fewest(58, 1), NONE);
        due("58 inches", x.row(58, 1, 0), NONE);
        longest("HOLD 0: 27, 29 and 4, or 29, 1 and 30", x, 0, 60, 3);
    }

    /** "how many FLOWERS (the fewest by which it is so)" */
    static void promise22FewestOfAsMany() {
        longest("2, or 1 and 1", Check.picked("d1 1 1;d1 2 1;", 2), 0, 2, 1);
        longest("29 and 2, or 29, 1 and 1", Check.picked("d1 1 1;d1 2 1;d1 30 1;", 3), 0, 31, 2);
    }

    static void promise22NothingIsChanged() {
        leaves("INCHES", Twins::busy, 17 + 13 + 10, x -> x.longest(0, 0));
        leaves("FLOWERS", Twins::busy, 3, x -> x.longest(0, 1));
    }

    // ---- promise 23: "FEWEST; NONE. BAD."

    /** "FEWEST for n (1 .. 300) inches" */
    static void promise23InchesTooFewOrTooMany() {
        refuses("fewest(n, 0)", Twins::busy, BAD, beyond(1, 300), (x, n) -> x.fewest(n, 0));
    }

    static void promise23HoldTooSmallOrTooLarge() {
        refuses("fewest(1, v)", Twins::busy, BAD, beyond(0, 99), (x, v) -> x.fewest(1, v));
    }

    static void promise23NothingIsPicked() {
        leaves("fewest(1, 0)", () -> Check.told(THIN), NONE, x -> x.fewest(1, 0));
        due("BAD ahead of it", Check.told(THIN).fewest(0, 0), BAD);
        due("BAD ahead of it", Check.told(THIN).fewest(301, 0), BAD);
        due("BAD ahead of it", Check.told(THIN).fewest(1, 100), BAD);
    }

    static void promise23OneToSeven() {
        DaisyChain x = thin(7);
        due("1", x.fewest(1, 0), 1);
        for (int many = 1; many <= 6; many++) {
            int inches = 29 * (many - 1) + 30;
            due("" + inches, x.fewest(inches, 0), many);
            due("" + (inches + 1), x.fewest(inches + 1, 0), many + 1);
        }
        due("204", x.fewest(204, 0), 7);
        due("205", x.fewest(205, 0), NONE);
        due("300", x.fewest(300, 0), NONE);
    }

    static void promise23JustHolds() {
        DaisyChain x = thin(7);
        due("HOLD 6, 36 inches", x.fewest(36, 6), 7);
        due("HOLD 6, 37 inches", x.fewest(37, 6), NONE);
        due("HOLD 7, 30 inches", x.fewest(30, 7), 1);
        due("HOLD 7, 31 inches", x.fewest(31, 7), NONE);
        due("HOLD 99, 30 inches", x.fewest(30, 99), 1);
    }

    static void promise23NothingIsChanged() {
        leaves("fewest(1, 0)", Twins::busy, 1, x -> x.fewest(1, 0));
        leaves("fewest(300, 0)", Twins::busy, NONE, x -> x.fewest(300, 0));
    }

    // ---- promise 24: "ROW (-5); NONE. BAD."

    static void promise24InchesTooFewOrTooMany() {
        refuses("row(n, 0, 0)", Twins::busy, BAD, beyond(1, 300), (x, n) -> x.row(n, 0, 0));
    }

    static void promise24HoldTooSmallOrTooLarge() {
        refuses("row(1, v, 0)", Twins::busy, BAD, beyond(0, 99), (x, v) -> x.row(1, v, 0));
    }

    static void promise24PlaceTooSmall() {
        refuses("row(1, 0, k)", Twins::busy, BAD, new int[] {-1, -5, -9, LEAST}, (x, k) -> x.row(1, 0, k));
    }

    /** "-5: not so many" */
    static void promise24NotSoMany() {
        refuses("row(1, 0, k)", Twins::busy, -5, new int[] {1, 2, 6, 7, 32, MOST}, (x, k) -> x.row(1, 0, k));
        DaisyChain x = thin(7);
        due("the seventh", x.row(204, 0, 6), 6);
        due("an eighth", x.row(204, 0, 7), -5);
        due("the second of two", x.row(31, 0, 1), 1);
        due("a third of two", x.row(31, 0, 2), -5);
    }

    static void promise24NoRow() {
        DaisyChain x = thin(7);
        due("205", x.row(205, 0, 0), NONE);
        due("205, an eighth", x.row(205, 0, 7), NONE);
        due("300", x.row(300, 0, 0), NONE);
        due("HOLD 7, 31 inches", x.row(31, 7, 0), NONE);
        leaves("nothing is PICKED", () -> Check.told(THIN), NONE, y -> y.row(1, 0, 0));
    }

    static void promise24BadAheadOfNone() {
        DaisyChain x = Check.told(THIN);
        due("n 0", x.row(0, 0, 0), BAD);
        due("n 301", x.row(301, 0, 0), BAD);
        due("v 100", x.row(1, 100, 0), BAD);
        due("k -1", x.row(300, 0, -1), BAD);
    }

    /** "the first row .. (by the first one, the second, ..)" */
    static void promise24TheFirstOfAllAlike() {
        DaisyChain x = thin(7);
        for (int k = 0; k < 7; k++) {
            due("k " + k, x.row(204, 0, k), k);
        }
        due("one", x.row(30, 0, 0), 0);
    }

    static void promise24TheFirstThatIsEnough() {
        DaisyChain x = Check.picked("d1 2 1;d1 9 1;d1 30 1;w0;", 3);
        due("9 inches", x.row(9, 0, 0), 1);
        due("10 inches", x.row(10, 0, 0), 2);
        due("31 inches: 1 and 30", x.row(31, 0, 0), 0);
        due("31 inches: 1 and 30", x.row(31, 0, 1), 2);
        due("32 inches: 8 and 30", x.row(32, 0, 0), 1);
        due("38 inches: 8 and 30", x.row(38, 0, 1), 2);
        due("39 inches: 1, 8 and 30", x.row(39, 0, 0), 0);
        due("39 inches: 1, 8 and 30", x.row(39, 0, 1), 1);
        due("40 inches: 29, 8 and 2 are 39", x.row(40, 0, 0), NONE);
    }

    static void promise24OnlyWhatIsPicked() {
        DaisyChain x = alike(3, THIN, "");
        x.picks(2);
        due("1 inch", x.row(1, 0, 0), 2);
        due("31 inches", x.row(31, 0, 0), NONE);
        x.picks(1);
        due("1 inch", x.row(1, 0, 0), 1);
        due("31 inches", x.row(31, 0, 1), 2);
    }

    static void promise24StalkOfOneInch() {
        DaisyChain x = Check.picked("d1 1 1;d1 2 1;", 2);
        due("1 inch", x.row(1, 0, 0), 0);
        due("2 inches", x.row(2, 0, 0), 1);
        due("3 inches", x.row(3, 0, 0), NONE);
    }

    /** 0, 1, 2 and 0, 2, 1 are 34 inches, 1, 0, 2 and 1, 2, 0 are 37; 2, 0 is 34, too. */
    static void promise24JustEnoughInches() {
        DaisyChain x = Check.picked("d1 5 1;d4 5 1;d2 30 1;w0;", 3);
        due("34 inches", x.row(34, 0, 0), 2);
        due("34 inches", x.row(34, 0, 1), 0);
        for (int n = 35; n <= 37; n++) {
            due(n + " inches, the first one", x.row(n, 0, 0), 1);
            due(n + " inches, the second one", x.row(n, 0, 1), 0);
            due(n + " inches, the third one", x.row(n, 0, 2), 2);
        }
        due("38 inches", x.row(38, 0, 0), NONE);
    }

    static void promise24NothingIsChanged() {
        leaves("row(1, 0, 0)", Twins::busy, 0, x -> x.row(1, 0, 0));
        leaves("row(300, 0, 0)", Twins::busy, NONE, x -> x.row(300, 0, 0));
    }
}

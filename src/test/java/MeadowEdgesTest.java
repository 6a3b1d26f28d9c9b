/** Boundary cases of the meadow: promises 1 to 7. */
final class MeadowEdgesTest extends Edges {
    private static final String TWO = "d4 20 7;d3 15 8;w3;";

    public static void main(String[] args) {
        run(MeadowEdgesTest.class);
    }

    // ---- promise 1: "As told; no FLOWERS."

    static void promise1NoFlowers() {
        DaisyChain x = new DaisyChain();
        due("count(0)", x.count(0), 0);
        for (int what = 0; what <= 7; what++) {
            due("flower(0, " + what + ")", x.flower(0, what), BAD);
        }
        due("picks(0)", x.picks(0), BAD);
        due("slits(0, 1, 1)", x.slits(0, 1, 1), BAD);
        due("threads(0)", x.threads(0), BAD);
        due("bestSlit(0, 1, 0)", x.bestSlit(0, 1, 0), BAD);
        for (int kind = 0; kind <= 5; kind++) {
            due("rate(" + kind + ", 0)", x.rate(kind, 0), NO);
        }
    }

    /** "THE MINUTE (0 at first ..", "WATER .. (none at first)", "THE TRACE, 0 at first" */
    static void promise1AllIsNothingAtFirst() {
        DaisyChain x = new DaisyChain();
        for (int what = 0; what <= 6; what++) {
            due("now(" + what + ")", x.now(what), 0);
        }
        due("link(0)", x.link(0), BAD);
        due("SEEN", x.count(2), 0);
        due("letters", x.count(3), 0);
        due("trace()", x.trace(), 0);
    }

    /** "WILT (0 .. 9; 2 at first)" */
    static void promise1WiltIs2AtFirst() {
        due("count(1)", new DaisyChain().count(1), 2);
    }

    static void promise1NothingToTakeBack() {
        DaisyChain x = new DaisyChain();
        due("undo()", x.undo(), STATE);
        due("pulls()", x.pulls(), STATE);
        due("back(0)", x.back(0), STATE);
        due("back(1)", x.back(1), STATE);
        due("clear()", x.clear(), 0);
        due("forget()", x.forget(), 0);
    }

    static void promise1AskedOfNothing() {
        DaisyChain x = new DaisyChain();
        due("weakest(0)", x.weakest(0), NONE);
        due("weakest(1)", x.weakest(1), NONE);
        due("hung()", x.hung(), NONE);
        due("inTime(1)", x.inTime(1), NONE);
        due("inTime(99)", x.inTime(99), NONE);
        due("props(0)", x.props(0), 0);
        due("props(1)", x.props(1), 0);
        due("ring()", x.ring(), 0);
        due("loves()", x.loves(), 0);
        due("longest(0, 0)", x.longest(0, 0), NONE);
        due("longest(0, 1)", x.longest(0, 1), NONE);
        due("fewest(1, 0)", x.fewest(1, 0), NONE);
        due("row(1, 0, 0)", x.row(1, 0, 0), NONE);
        due("wilts()", x.wilts(), 1023);
        due("odds(10, 0, 0)", x.odds(10, 0, 0), 1);
        due("odds(10, 0, 1)", x.odds(10, 0, 1), 1);
    }

    static void promise1ObjectsShareNothing() {
        leaves("all that is done to another one", Twins::busy, 1, x -> {
            DaisyChain other = new DaisyChain();
            due("FLOWERS of a new one", other.count(0), 0);
            due("IMAGES of a new one", other.back(0), STATE);
            due("TRACE of a new one", other.trace(), 0);
            return Check.tell(other, "w9;");
        });
    }

    // ---- promise 2: "A letter (0 .. 255) comes to THE TEXT: how many it has. BAD; FULL."

    static void promise2LetterTooSmall() {
        DaisyChain x = new DaisyChain();
        due("type(-1)", x.type(-1), BAD);
        due("type(-156), d but for 256", x.type('d' - 256), BAD);
        due("type(LEAST)", x.type(LEAST), BAD);
        due("count(3)", x.count(3), 0);
    }

    static void promise2LetterTooLarge() {
        DaisyChain x = new DaisyChain();
        due("type(256)", x.type(256), BAD);
        due("type(356), d but for 256", x.type('d' + 256), BAD);
        due("type(65636), d but for 65536", x.type('d' + 65536), BAD);
        due("type(MOST)", x.type(MOST), BAD);
        due("count(3)", x.count(3), 0);
    }

    static void promise2LeastLetter() {
        due("type(0)", new DaisyChain().type(0), 1);
    }

    static void promise2MostLetter() {
        due("type(255)", new DaisyChain().type(255), 1);
    }

    /** "a text (200 letters at most)" */
    static void promise2LetterNumber200() {
        DaisyChain x = letters(199);
        due("letter 200", x.type('d'), 200);
        due("count(3)", x.count(3), 200);
    }

    static void promise2FullBehind200() {
        DaisyChain x = letters(200);
        due("letter 201", x.type('d'), FULL);
        due("letter 201 again", x.type(0), FULL);
        due("count(3)", x.count(3), 200);
        due("the last one is as it was", x.meadow(), 0);
    }

    /** "the first of these: BAD .., STATE .., FULL" */
    static void promise2BadAheadOfFull() {
        DaisyChain x = letters(200);
        due("type(-1)", x.type(-1), BAD);
        due("type(256)", x.type(256), BAD);
    }

    static void promise2NotFullBehindClear() {
        DaisyChain x = letters(200);
        due("clear()", x.clear(), 200);
        due("type(32)", x.type(32), 1);
    }

    static void promise2NotFullBehindMeadow() {
        DaisyChain x = letters(200);
        due("meadow()", x.meadow(), 0);
        due("type(32)", x.type(32), 1);
    }

    static void promise2FullBehindAFault() {
        DaisyChain x = letters(199);
        due("letter 200", x.type('x'), 200);
        due("meadow()", x.meadow(), -10 - 199);
        due("type(32)", x.type(32), FULL);
    }

    static void promise2RefusedChangesNothing() {
        refuses("type", Twins::busy, BAD, beyond(0, 255), DaisyChain::type);
        leaves("letter 201", () -> letters(200), FULL, x -> x.type('x'));
    }

    private static DaisyChain letters(int many) {
        DaisyChain x = new DaisyChain();
        for (int i = 1; i <= many; i++) {
            due("letter " + i, x.type(32), i);
        }
        return x;
    }

    // ---- promise 3: "THE TEXT is empty: how many letters it had."

    static void promise3ClearOfNothing() {
        DaisyChain x = new DaisyChain();
        due("clear()", x.clear(), 0);
        due("count(3)", x.count(3), 0);
    }

    static void promise3ClearOfAFullText() {
        DaisyChain x = letters(200);
        due("clear()", x.clear(), 200);
        due("count(3)", x.count(3), 0);
    }

    static void promise3ClearTwice() {
        DaisyChain x = letters(1);
        due("clear()", x.clear(), 1);
        due("clear() again", x.clear(), 0);
    }

    static void promise3ClearBehindAFault() {
        DaisyChain x = new DaisyChain();
        Check.type(x, "d1 1");
        due("meadow()", x.meadow(), -14);
        due("clear()", x.clear(), 4);
        due("meadow() of nothing", x.meadow(), 0);
    }

    static void promise3ClearBehindMeadow() {
        due("clear()", Check.told(TWO).clear(), 0);
    }

    static void promise3WhatWasTypedIsGone() {
        DaisyChain x = new DaisyChain();
        Check.type(x, "d9 9 9;w9;x");
        x.clear();
        Check.type(x, "w1;");
        due("meadow()", x.meadow(), 1);
        due("count(0)", x.count(0), 0);
    }

    static void promise3NothingElseIsCleared() {
        leaves("clear() of nothing", MeadowEdgesTest::busyWithoutText, 0, DaisyChain::clear);
    }

    private static DaisyChain busyWithoutText() {
        DaisyChain x = Twins.busy();
        x.clear();
        return x;
    }

    // ---- promise 4: "THE TEXT tells all anew, and is empty then: how many ITEMS."

    private static void items(String text, int items) {
        due("'" + text + "'", Check.tell(new DaisyChain(), text), items);
    }

    private static void fault(String text, int place) {
        due("'" + text + "'", Check.tell(new DaisyChain(), text), -10 - place);
    }

    static void promise4EmptyText() {
        items("", 0);
    }

    static void promise4EmptyTextTakesAllAway() {
        DaisyChain x = Check.told(TWO);
        due("meadow()", x.meadow(), 0);
        due("FLOWERS", x.count(0), 0);
        due("WILT", x.count(1), 2);
        due("flower(0, 0)", x.flower(0, 0), BAD);
    }

    static void promise4BlanksAlone() {
        items(" ", 0);
        items(blanks(MOST_LETTERS), 0);
    }

    /** "FLOWERS 0 .. (7 at most)" */
    static void promise4OneToSevenFlowers() {
        for (int many = 1; many <= 7; many++) {
            DaisyChain x = new DaisyChain();
            due(many + " ITEMS", Check.tell(x, "d1 2 3;".repeat(many)), many);
            due("FLOWERS", x.count(0), many);
            due("the last one", x.flower(many - 1, 2), 3);
            due("none behind it", x.flower(many, 2), BAD);
        }
    }

    /** "an eighth d" */
    static void promise4AnEighthFlower() {
        String seven = "d1 2 3;".repeat(7);
        fault(seven + "d1 2 3;", 49);
        fault(seven + "d", 49);
        fault(seven + "  d1 2 3;", 51);
        fault(seven + "w1;d1 2 3;", 52);
        fault("w1;" + seven + "d x", 52);
        items(seven + "w1;", 8);
    }

    static void promise4LeastNumbers() {
        DaisyChain x = Check.told("d1 1 1;w0;");
        due("THICK", x.flower(0, 0), 1);
        due("LONG", x.flower(0, 1), 1);
        due("PETALS", x.flower(0, 2), 1);
        due("WILT", x.count(1), 0);
    }

    static void promise4MostNumbers() {
        DaisyChain x = Check.told("d9 30 60;w9;");
        due("THICK", x.flower(0, 0), 9);
        due("LONG", x.flower(0, 1), 30);
        due("PETALS", x.flower(0, 2), 60);
        due("WILT", x.count(1), 9);
    }

    /** "THICK (1 .. 9)" */
    static void promise4ThickTooSmall() {
        fault("d0 1 1;", 1);
        fault("d 0 1 1;", 2);
    }

    static void promise4ThickTooLarge() {
        fault("d10 1 1;", 1);
        fault("d99 1 1;", 1);
    }

    /** "LONG (1 .. 30)" */
    static void promise4LongTooSmall() {
        fault("d1 0 1;", 3);
    }

    static void promise4LongTooLarge() {
        fault("d1 31 1;", 3);
        fault("d1 99 1;", 3);
    }

    /** "PETALS (1 .. 60)" */
    static void promise4PetalsTooSmall() {
        fault("d1 1 0;", 5);
    }

    static void promise4PetalsTooLarge() {
        fault("d1 1 61;", 5);
        fault("d1 1 99;", 5);
    }

    /** "WILT (0 .. 9"; there is no NUMBER below 0 */
    static void promise4WiltTooLarge() {
        fault("w10;", 1);
        fault("w99;", 1);
    }

    static void promise4NumbersBelow0AreNone() {
        fault("w-1;", 1);
        fault("d-1 1 1;", 1);
        fault("d1 -1 1;", 3);
        fault("d1 1 -1;", 5);
    }

    /** "w N (WILT; once at most)", "w again" */
    static void promise4WiltAgain() {
        fault("w1;w1;", 3);
        fault("w1;w2;", 3);
        fault("w1; w", 4);
        fault("w0;w0;", 3);
        fault("w2;d1 1 1;w3;", 10);
    }

    /** "2 at first": told anew without w it is that again */
    static void promise4WiltUntold() {
        DaisyChain x = Check.told("w9;");
        due("ITEMS", Check.tell(x, "d1 1 1;"), 1);
        due("WILT", x.count(1), 2);
    }

    /** "a NUMBER above 99" */
    static void promise4NumberAbove99() {
        fault("100", 0);
        fault("w100;", 1);
        fault("d100 1 1;", 1);
        fault("d1 100 1;", 3);
        fault("d1 1 100;", 5);
        fault("d1 1 1 100", 7);
        fault("w1 100;", 3);
    }

    static void promise4NumberThatWrapsAround() {
        fault("w256;", 1);
        fault("w65536;", 1);
        fault("w4294967296;", 1);
        fault("d4294967297 1 1;", 1);
        fault("d1 8589934593 1;", 3);
        fault("d1 1 18446744073709551617;", 5);
        fault("w1" + "0".repeat(198), 1);
        fault("w" + "9".repeat(199), 1);
    }

    /** "or with a 0 ahead of others" */
    static void promise4NumberWith0Ahead() {
        fault("00", 0);
        fault("w00;", 1);
        fault("w01;", 1);
        fault("w 09;", 2);
        fault("d01 1 1;", 1);
        fault("d1 01 1;", 3);
        fault("d1 1 01;", 5);
        fault("d1 1 060;", 5);
        fault("w0" + "0".repeat(198), 1);
    }

    static void promise4ZeroAloneIsANumber() {
        items("w0;", 1);
        items("w 0 ;", 1);
        fault("0", 0);
    }

    /** "of any other letter": each of 0 to 255 that begins no TOKEN, wherever it stands */
    static void promise4AnyOtherLetter() {
        for (char letter = 0; letter <= 255; letter++) {
            if (letter == 'd' || letter == 'w' || letter == ';' || letter == ' ' || letter >= '0' && letter <= '9') {
                continue;
            }
            fault("" + letter, 0);
            fault("w" + letter + ";", 1);
            fault("w1" + letter + ";", 2);
            fault("w1;" + letter, 3);
        }
    }

    static void promise4TokensThatCantStandThere() {
        fault(";", 0);
        fault("5", 0);
        fault("d;", 1);
        fault("dd", 1);
        fault("dw", 1);
        fault("d1;", 2);
        fault("d1d", 2);
        fault("d1 1;", 4);
        fault("d1 1w", 4);
        fault("d1 1 1d", 6);
        fault("d1 1 1w", 6);
        fault("d1 1 1 1;", 7);
        fault("w;", 1);
        fault("wd", 1);
        fault("ww", 1);
        fault("w1d", 2);
        fault("w1w", 2);
        fault("w1 1;", 3);
        fault("w1;;", 3);
        fault("w1;1", 3);
    }

    /** "the text's length, if it ends too early" */
    static void promise4EndsTooEarly() {
        String text = "d4 20 7;w3;";
        for (int length = 1; length <= text.length(); length++) {
            String begun = text.substring(0, length);
            if (begun.endsWith(";")) {
                items(begun, length == 8 ? 1 : 2);
                items(begun + "  ", length == 8 ? 1 : 2);
            } else {
                fault(begun, length);
                fault(begun + "  ", length + 2);
            }
        }
    }

    static void promise4EndsTooEarlyAt200() {
        fault(blanks(199) + "d", 200);
        fault("w1" + blanks(198), 200);
        fault(blanks(194) + "d1 1 1", 200);
    }

    static void promise4ReadToLetter200() {
        items(blanks(193) + "d1 1 1;", 1);
        items("d1 1 1" + blanks(193) + ";", 1);
        fault("d1 1 1;" + blanks(192) + ";", 199);
    }

    static void promise4FaultAtPlace0() {
        fault("x", 0);
        fault("x d1 1 1;", 0);
    }

    /** "the first TOKEN that can't stand there": by its place, whatever is wrong with it */
    static void promise4TheFirstFault() {
        fault("d1 31 100 x", 3);
        fault("d1 1 100 31 x", 5);
        fault("d1 x 100", 3);
        fault("w10 x", 1);
        fault("w1;w10;x", 3);
    }

    /** "blanks (32) between TOKENS": none are needed, but for two NUMBERS */
    static void promise4NoBlanksAndMany() {
        items("w3;d4 20 7;d3 15 8;", 3);
        items("  w  3  ;  d  4  20  7  ;  ", 2);
        fault("d11 1;", 1);
        fault("d1 111;", 3);
        fault("d1 1\t1;", 4);
        fault("d1 1\n1;", 4);
    }

    /** "-10 less FAULT: nothing changes" */
    static void promise4FaultChangesNothing() {
        leaves("meadow() of 'w5;d9 x'", Twins::busy, -16, DaisyChain::meadow);
        leaves("meadow() of an eighth d", MeadowEdgesTest::busyWithEight, -10 - 56, DaisyChain::meadow);
    }

    private static DaisyChain busyWithEight() {
        DaisyChain x = busyWithoutText();
        Check.type(x, "d9 9 9;".repeat(4) + "w0;" + " ".repeat(4) + "d9 9 9;".repeat(3) + "d");
        return x;
    }

    static void promise4TextIsEmptyThen() {
        DaisyChain x = Check.told(TWO);
        due("letters", x.count(3), 0);
        due("the next one", x.type('w'), 1);
    }

    /** "(Read anew: as told, nothing PICKED, nothing SEEN, IMAGES are gone.)" */
    static void promise4ReadAnew() {
        DaisyChain x = Twins.busy();
        due("meadow()", Check.tell(x, "d1 2 3;d1 2 3;d1 2 3;d1 2 3;"), 4);
        for (int what = 0; what <= 6; what++) {
            due("now(" + what + ")", x.now(what), 0);
        }
        for (int f = 0; f < 4; f++) {
            due("PICKED", x.flower(f, 3), 0);
            due("DRY", x.flower(f, 4), NONE);
            due("PLACE", x.flower(f, 5), 0);
            due("LENGTH", x.flower(f, 6), 0);
            due("HOLDS", x.flower(f, 7), NONE);
        }
        due("WILT", x.count(1), 2);
        due("SEEN", x.count(2), 0);
        due("wilts()", x.wilts(), 1023);
        due("link(0)", x.link(0), BAD);
        due("undo()", x.undo(), STATE);
        due("back(0)", x.back(0), STATE);
        due("back(1)", x.back(1), STATE);
    }

    static void promise4FewerFlowersThanBefore() {
        DaisyChain x = alike(7, "d9 30 60;", "");
        x.picks(6);
        due("meadow()", Check.tell(x, "d1 1 1;"), 1);
        due("flower(0, 1)", x.flower(0, 1), 1);
        due("flower(1, 1)", x.flower(1, 1), BAD);
        due("picks(6)", x.picks(6), BAD);
    }

    // ---- promise 5: flower

    static void promise5NoSuchFlower() {
        refuses("flower(f, 0)", Twins::busy, BAD, noneOf(4), (x, f) -> x.flower(f, 0));
        refuses("flower(f, 7)", Twins::busy, BAD, noneOf(4), (x, f) -> x.flower(f, 7));
    }

    static void promise5FirstAndLastFlower() {
        DaisyChain x = Check.told("d1 2 3;d1 1 1;d1 1 1;d1 1 1;d1 1 1;d1 1 1;d7 8 9;");
        due("the first one", x.flower(0, 1), 2);
        due("the seventh one", x.flower(6, 1), 8);
        due("an eighth one", x.flower(7, 1), BAD);
    }

    static void promise5NothingElseToAsk() {
        refuses("flower(0, what)", Twins::busy, BAD, beyond(0, 7), (x, what) -> x.flower(0, what));
    }

    /** "DRY (NONE: not PICKED)", "(0: none)", "(0)", "HOLDS (NONE: not SLIT)" */
    static void promise5NotPickedNotSlit() {
        DaisyChain x = Check.told(TWO);
        x.minutes(60);
        due("PICKED", x.flower(0, 3), 0);
        due("DRY", x.flower(0, 4), NONE);
        due("PLACE", x.flower(0, 5), 0);
        due("LENGTH", x.flower(0, 6), 0);
        due("HOLDS", x.flower(0, 7), NONE);
    }

    static void promise5PickedNotSlit() {
        DaisyChain x = Check.picked(TWO, 1);
        due("PICKED", x.flower(0, 3), 1);
        due("DRY", x.flower(0, 4), 0);
        due("PLACE", x.flower(0, 5), 0);
        due("LENGTH", x.flower(0, 6), 0);
        due("HOLDS", x.flower(0, 7), NONE);
        due("the other one is not PICKED", x.flower(1, 3), 0);
    }

    /** "OPEN, if PLACE and LENGTH together are more than LONG (it holds nothing)" */
    static void promise5HoldsUntilItIsOpen() {
        DaisyChain x = Check.picked(TWO, 1);
        x.slits(0, 17, 3);
        due("17 and 3 of 20", x.flower(0, 7), 40 - 9 - 17);
        x.slits(0, 18, 3);
        due("18 and 3 of 20", x.flower(0, 7), 0);
        x.slits(0, 17, 4);
        due("17 and 4 of 20", x.flower(0, 7), 0);
    }

    /** "0 at least": 10, less 3 times LENGTH, less PLACE */
    static void promise5Holds0AtLeast() {
        DaisyChain x = Check.picked("d1 30 1;", 1);
        x.slits(0, 6, 1);
        due("10 - 3 - 6", x.flower(0, 7), 1);
        x.slits(0, 7, 1);
        due("10 - 3 - 7", x.flower(0, 7), 0);
        x.slits(0, 8, 1);
        due("10 - 3 - 8", x.flower(0, 7), 0);
        x.slits(0, 21, 9);
        due("10 - 27 - 21", x.flower(0, 7), 0);
    }

    /** "WILT times DRY by 10 (cut)" */
    static void promise5WiltedByTenthsCut() {
        DaisyChain x = Check.picked("d4 20 7;w1;", 1);
        x.slits(0, 1, 1);
        x.minutes(9);
        due("1 times 9", x.flower(0, 7), 36);
        x.minutes(1);
        due("1 times 10", x.flower(0, 7), 35);
        x.minutes(9);
        due("1 times 19", x.flower(0, 7), 35);
        x.minutes(1);
        due("1 times 20", x.flower(0, 7), 34);
    }

    static void promise5WiltedAway() {
        DaisyChain x = Check.picked("d9 30 1;w9;", 1);
        x.slits(0, 1, 1);
        due("90 - 3 - 1", x.flower(0, 7), 86);
        x.minutes(60);
        x.minutes(35);
        due("less 855 by 10", x.flower(0, 7), 1);
        x.minutes(1);
        due("less 864 by 10", x.flower(0, 7), 0);
        x.minutes(60);
        due("less 1404 by 10", x.flower(0, 7), 0);
    }

    static void promise5MostDry() {
        DaisyChain x = Check.picked("d9 30 1;w0;", 1);
        x.slits(0, 1, 1);
        untilTheLastMinute(x);
        due("DRY", x.flower(0, 4), 600);
        due("WILT 0", x.flower(0, 7), 86);
    }

    /** "how many MINUTES went by since it was, without WATER" */
    static void promise5DryWithoutWaterAlone() {
        DaisyChain x = Check.told(TWO);
        x.minutes(5);
        x.picks(0);
        due("at once", x.flower(0, 4), 0);
        x.minutes(1);
        due("a MINUTE", x.flower(0, 4), 1);
        x.water(1);
        x.minutes(60);
        due("with WATER", x.flower(0, 4), 1);
        x.water(0);
        due("WATER goes", x.flower(0, 4), 1);
        x.minutes(1);
        due("two MINUTES", x.flower(0, 4), 2);
    }

    // ---- promise 6: "The k-th FLOWER of THE CHAIN (0 the first). BAD."

    static void promise6NoChain() {
        DaisyChain x = Check.picked(TWO, 2);
        due("link(0)", x.link(0), BAD);
        due("link(-1)", x.link(-1), BAD);
    }

    static void promise6OneFlower() {
        DaisyChain x = Check.picked(TWO, 2);
        x.threads(1);
        due("link(0)", x.link(0), 1);
        due("link(1)", x.link(1), BAD);
    }

    static void promise6SevenFlowers() {
        DaisyChain x = chained(7, "d1 9 1;", "", 1, 1);
        for (int k = 0; k < 7; k++) {
            due("link(" + k + ")", x.link(k), k);
        }
        due("link(7)", x.link(7), BAD);
    }

    static void promise6NoSuchPlace() {
        refuses("link", Twins::busy, BAD, noneOf(3), DaisyChain::link);
    }

    static void promise6PulledOffIsNoLink() {
        DaisyChain x = chained(2, "d1 9 1;", "", 1, 1);
        due("link(1)", x.link(1), 1);
        x.pulls();
        due("link(1) behind pulls()", x.link(1), BAD);
        x.pulls();
        due("link(0) behind pulls()", x.link(0), BAD);
        x.undo();
        due("link(0), UNDONE", x.link(0), 0);
    }

    // ---- promise 7: now

    static void promise7NothingElseToAsk() {
        refuses("now", Twins::busy, BAD, beyond(0, 6), DaisyChain::now);
    }

    static void promise7LastMinute() {
        DaisyChain x = new DaisyChain();
        untilTheLastMinute(x);
        due("now(0)", x.now(0), 600);
    }

    static void promise7NoneAndAllPicked() {
        DaisyChain x = alike(7, "d1 1 1;", "");
        due("none", x.now(2), 0);
        for (int f = 6; f >= 0; f--) {
            x.picks(f);
            due("from " + f + " on", x.now(2), 128 - (1 << f));
        }
    }

    /** "INCHES: PLACES of all LINKS, and LONG of the last one, together (0 without)" */
    static void promise7InchesOfNoneOneAndSeven() {
        DaisyChain x = Check.picked(TWO, 2);
        due("without", x.now(4), 0);
        x.slits(0, 5, 3);
        x.threads(0);
        due("one: its LONG, not its PLACE", x.now(4), 20);
        x.threads(1);
        due("two", x.now(4), 5 + 15);
        DaisyChain y = chained(7, "d1 30 1;", "", 29, 1);
        due("the most that can be", y.now(4), 6 * 29 + 30);
        due("seven", y.now(3), 7);
    }

    /** "CAN: FLOWERS (bits) that could be THREADED next." */
    static void promise7CanNoneAndAll() {
        DaisyChain x = alike(7, "d9 30 1;", "");
        due("none PICKED", x.now(5), 0);
        for (int f = 0; f < 7; f++) {
            x.picks(f);
        }
        due("as the first one any", x.now(5), 127);
        x.slits(3, 1, 9);
        x.threads(3);
        due("all but the one in it", x.now(5), 127 - 8);
        DaisyChain y = chained(7, "d1 9 1;", "", 1, 1);
        due("all are in it", y.now(5), 0);
    }

    static void promise7CanByTheLastSlit() {
        DaisyChain x = Check.picked("d4 20 1;d3 15 1;d2 10 1;", 3);
        x.threads(0);
        due("not SLIT", x.now(5), 0);
        x.slits(0, 17, 4);
        due("OPEN by one", x.now(5), 0);
        x.slits(0, 16, 4);
        due("just not OPEN", x.now(5), 6);
        x.slits(0, 16, 3);
        due("LENGTH is THICK", x.now(5), 6);
        x.slits(0, 16, 2);
        due("LENGTH is less by one", x.now(5), 4);
        x.slits(0, 16, 1);
        due("LENGTH is less for both", x.now(5), 0);
    }

    static void promise7CanThoughItHoldsNothing() {
        DaisyChain x = Check.picked("d1 30 1;d1 1 1;", 2);
        x.threads(0);
        due("10 - 3 - 29", x.slits(0, 29, 1), 0);
        due("it is not OPEN", x.now(5), 2);
    }

    /** "(10 are known, older ones are lost)" */
    static void promise7UndoneNoneToTen() {
        DaisyChain x = Check.told(TWO);
        due("none", x.now(6), 0);
        for (int i = 1; i <= 12; i++) {
            x.water(1);
            due("behind " + i, x.now(6), Math.min(i, 10));
        }
    }

    static void promise7NothingIsChanged() {
        leaves("now(4)", Twins::busy, 29, x -> x.now(4));
        leaves("now(5)", Twins::busy, 0, x -> x.now(5));
    }
}

/** Each promise of the document in turn: ordinary calls, the edges that it names, and wrong numbers. */
public final class PromisesTest {
    private static final int BAD = DaisyChain.BAD;
    private static final int STATE = DaisyChain.STATE;
    private static final int FULL = DaisyChain.FULL;
    private static final int NONE = DaisyChain.NONE;
    private static final int NO = DaisyChain.NO;
    private static final int LEAST = Integer.MIN_VALUE;
    private static final int MOST = Integer.MAX_VALUE;

    // Three to link one behind another: 0 takes 1 by a slit of 3, 1 takes 2 by a slit of 2.
    private static final String THREE = "d4 20 7;d3 15 8;d2 10 6;w3;";

    public static void main(String[] args) {
        promise1NewObject();
        promise2Type();
        promise3Clear();
        promise4Meadow();
        promise4Faults();
        promise4ReadAnew();
        promise5Flower();
        promise6Link();
        promise7Now();
        promise8Picks();
        promise9Slits();
        promise10Threads();
        promise11Pulls();
        promise12Minutes();
        promise13Water();
        promise14Undo();
        promise15Weakest();
        promise16Hung();
        promise17InTime();
        promise18Props();
        promise19Ring();
        promise20Loves();
        promise21BestSlit();
        promise22Longest();
        promise23Fewest();
        promise24Row();
        promise25Seen();
        promise26Forget();
        promise27Wilts();
        promise28Odds();
        promise29Rate();
        promise30Keep();
        promise31Back();
        promise32Count();
        promise33Trace();
        Check.end();
    }

    /** Promise, then what was asked: so that a row of output says which promise is broken. */
    private static void due(int promise, String call, long got, long want) {
        Check.due("promise " + promise + ", " + call, got, want);
    }

    /** 0 and 1 are LINKS, 2 is the last one: PLACES 10 and 9, HOLDS 21 and 15. */
    private static DaisyChain chainOfThree() {
        DaisyChain x = Check.picked(THREE, 3);
        Check.due("slits(0, 10, 3)", x.slits(0, 10, 3), 21);
        Check.due("slits(1, 9, 2)", x.slits(1, 9, 2), 15);
        Check.due("threads(0)", x.threads(0), 20);
        Check.due("threads(1)", x.threads(1), 25);
        Check.due("threads(2)", x.threads(2), 29);
        return x;
    }

    private static void promise1NewObject() {
        DaisyChain x = new DaisyChain();
        due(1, "count(0)", x.count(0), 0);
        due(1, "count(1)", x.count(1), 2);
        due(1, "count(2)", x.count(2), 0);
        due(1, "count(3)", x.count(3), 0);
        for (int what = 0; what <= 6; what++) {
            due(1, "now(" + what + ")", x.now(what), 0);
        }
        due(1, "flower(0, 0)", x.flower(0, 0), BAD);
        due(1, "back(0)", x.back(0), STATE);
        due(1, "back(1)", x.back(1), STATE);
        due(1, "trace()", x.trace(), 0);
        due(1, "wilts()", x.wilts(), 1023);
        due(1, "undo()", x.undo(), STATE);
    }

    private static void promise2Type() {
        DaisyChain x = new DaisyChain();
        due(2, "type(-1)", x.type(-1), BAD);
        due(2, "type(256)", x.type(256), BAD);
        due(2, "type(LEAST)", x.type(LEAST), BAD);
        due(2, "type(MOST)", x.type(MOST), BAD);
        due(2, "type(0)", x.type(0), 1);
        due(2, "type(255)", x.type(255), 2);
        for (int i = 3; i <= 200; i++) {
            due(2, "type(32) as letter " + i, x.type(32), i);
        }
        due(2, "type(32) as letter 201", x.type(32), FULL);
        due(2, "type(300), BAD ahead of FULL", x.type(300), BAD);
        due(2, "count(3)", x.count(3), 200);
    }

    private static void promise3Clear() {
        DaisyChain x = new DaisyChain();
        due(3, "clear() of nothing", x.clear(), 0);
        Check.type(x, "d1 2");
        due(3, "clear()", x.clear(), 4);
        due(3, "count(3)", x.count(3), 0);
        due(3, "clear() again", x.clear(), 0);
        due(3, "meadow() behind it", x.meadow(), 0);
    }

    private static void promise4Meadow() {
        DaisyChain x = new DaisyChain();
        due(4, "empty text", Check.tell(x, ""), 0);
        due(4, "blanks alone", Check.tell(x, "   "), 0);
        due(4, "WILT alone", Check.tell(x, "w0;"), 1);
        due(4, "count(1)", x.count(1), 0);
        due(4, "least numbers", Check.tell(x, "d1 1 1;"), 1);
        due(4, "WILT as at first", x.count(1), 2);
        due(4, "most numbers, w first", Check.tell(x, "w9;d9 30 60;"), 2);
        due(4, "count(1)", x.count(1), 9);
        due(4, "flower(0, 0)", x.flower(0, 0), 9);
        due(4, "flower(0, 1)", x.flower(0, 1), 30);
        due(4, "flower(0, 2)", x.flower(0, 2), 60);
        due(4, "the text is empty then", x.count(3), 0);
        due(4, "blanks between", Check.tell(x, "  d 1  2 3 ;  w  4 ;d5 6 7;  "), 3);
        due(4, "seven, and w between", Check.tell(x, "d1 1 1;d2 2 2;d3 3 3;w1;d4 4 4;d5 5 5;d6 6 6;d7 7 7;"), 8);
        due(4, "count(0)", x.count(0), 7);
        due(4, "flower(6, 1)", x.flower(6, 1), 7);
        due(4, "200 letters", Check.tell(x, " ".repeat(193) + "d9 8 7;"), 1);
        due(4, "flower(0, 2)", x.flower(0, 2), 7);
    }

    private static void fault(String text, int place) {
        DaisyChain x = Check.told("d3 4 5;w6;");
        due(4, "'" + text + "'", Check.tell(x, text), -10 - place);
        due(4, "flowers behind '" + text + "'", x.count(0), 1);
        due(4, "THICK behind '" + text + "'", x.flower(0, 0), 3);
        due(4, "WILT behind '" + text + "'", x.count(1), 6);
        due(4, "letters behind '" + text + "'", x.count(3), text.length());
    }

    private static void promise4Faults() {
        fault("x", 0);
        fault("  x", 2);
        fault(";", 0);
        fault("5", 0);
        fault("dd", 1);
        fault("d;", 1);
        fault("d1;", 2);
        fault("d1 1;", 4);
        fault("d1 1 1 1;", 7);
        fault("d1 1 1d", 6);
        fault("w1;;", 3);
        fault("w1 1;", 3);
        fault("w1d1 1 1;", 2);
        fault("wd", 1);
        fault("w;", 1);
        fault("D1 1 1;", 0);
        fault("d1,1,1;", 2);
        fault("d1\t1 1;", 2);
        fault("d-1 1 1;", 1);
        fault("d0 1 1;", 1);
        fault("d10 1 1;", 1);
        fault("d1 0 1;", 3);
        fault("d1 31 1;", 3);
        fault("d1 1 0;", 5);
        fault("d1 1 61;", 5);
        fault("w10;", 1);
        fault("w 10 x", 2);
        fault("w00;", 1);
        fault("w01;", 1);
        fault("d01 1 1;", 1);
        fault("d1 1 01;", 5);
        fault("d1 100 1;", 3);
        fault("d1 1 99999999999999999999;", 5);
        fault("d1 1 4294967297;", 5);
        fault("w1;w1;", 3);
        fault("w1;w", 3);
        fault("d1 1 1;d1 1 1;d1 1 1;d1 1 1;d1 1 1;d1 1 1;d1 1 1; d1 1 1;", 50);
        fault("d", 1);
        fault("d ", 2);
        fault("d1 1 1", 6);
        fault("d1 1 1  ", 8);
        fault("w1", 2);
        fault("w1;d", 4);
        // the first one by its place, of whatever sort it is
        fault("d1 31 100 x", 3);
        fault("d1 1 1 x 100", 7);
        fault("w" + (char) 233 + ";", 1);
        fault("w1" + (char) 0 + ";", 2);
    }

    private static void promise4ReadAnew() {
        DaisyChain x = chainOfThree();
        x.water(1);
        x.minutes(5);
        x.keep(0);
        x.keep(1);
        x.seen(5, 1);
        x.rate(0, 0);
        due(4, "with a fault", Check.tell(x, "d1 1 1;x"), -17);
        due(4, "MINUTE behind a fault", x.now(0), 5);
        due(4, "CHAIN behind a fault", x.now(3), 3);
        due(4, "what may be UNDONE behind a fault", x.now(6), 10);
        due(4, "SEEN behind a fault", x.count(2), 1);
        due(4, "back(1) behind a fault", x.back(1), 5);
        due(4, "told anew", Check.tell(x, "d1 2 3;d1 2 3;d1 2 3;"), 3);
        for (int what = 0; what <= 6; what++) {
            due(4, "now(" + what + ") told anew", x.now(what), 0);
        }
        for (int f = 0; f < 3; f++) {
            due(4, "PICKED, told anew", x.flower(f, 3), 0);
            due(4, "DRY, told anew", x.flower(f, 4), NONE);
            due(4, "PLACE, told anew", x.flower(f, 5), 0);
            due(4, "LENGTH, told anew", x.flower(f, 6), 0);
            due(4, "HOLDS, told anew", x.flower(f, 7), NONE);
        }
        due(4, "SEEN, told anew", x.count(2), 0);
        due(4, "back(0), told anew", x.back(0), STATE);
        due(4, "back(1), told anew", x.back(1), STATE);
        due(4, "undo(), told anew", x.undo(), STATE);
        due(4, "WILT, told anew", x.count(1), 2);
        due(4, "TRACE goes on", x.trace(), 1);
    }

    private static void promise5Flower() {
        DaisyChain x = Check.told("d4 20 7;d3 15 8;w3;");
        due(5, "THICK", x.flower(1, 0), 3);
        due(5, "LONG", x.flower(1, 1), 15);
        due(5, "PETALS", x.flower(1, 2), 8);
        due(5, "PICKED", x.flower(1, 3), 0);
        due(5, "DRY", x.flower(1, 4), NONE);
        due(5, "PLACE", x.flower(1, 5), 0);
        due(5, "LENGTH", x.flower(1, 6), 0);
        due(5, "HOLDS", x.flower(1, 7), NONE);
        x.picks(1);
        due(5, "PICKED", x.flower(1, 3), 1);
        due(5, "DRY", x.flower(1, 4), 0);
        due(5, "HOLDS, PICKED but not SLIT", x.flower(1, 7), NONE);
        x.slits(1, 6, 2);
        x.minutes(3);
        due(5, "HOLDS, 9 by 10 cut", x.flower(1, 7), 30 - 6 - 6);
        x.minutes(4);
        due(5, "DRY", x.flower(1, 4), 7);
        due(5, "PLACE", x.flower(1, 5), 6);
        due(5, "LENGTH", x.flower(1, 6), 2);
        due(5, "HOLDS, 21 by 10 cut", x.flower(1, 7), 30 - 6 - 6 - 2);
        due(5, "the other one", x.flower(0, 3), 0);
        due(5, "HOLDS of the other one", x.flower(0, 7), NONE);
        due(5, "flower(-1, 0)", x.flower(-1, 0), BAD);
        due(5, "flower(2, 0)", x.flower(2, 0), BAD);
        due(5, "flower(7, 0)", x.flower(7, 0), BAD);
        due(5, "flower(MOST, 0)", x.flower(MOST, 0), BAD);
        due(5, "flower(LEAST, 0)", x.flower(LEAST, 0), BAD);
        due(5, "flower(0, -1)", x.flower(0, -1), BAD);
        due(5, "flower(0, 8)", x.flower(0, 8), BAD);
        due(5, "flower(0, MOST)", x.flower(0, MOST), BAD);
    }

    private static void promise6Link() {
        DaisyChain x = Check.picked("d1 9 1;d2 9 1;d3 9 1;", 3);
        due(6, "link(0) without a CHAIN", x.link(0), BAD);
        x.slits(2, 1, 2);
        x.threads(2);
        x.threads(1);
        due(6, "link(0)", x.link(0), 2);
        due(6, "link(1), the last one too", x.link(1), 1);
        due(6, "link(2)", x.link(2), BAD);
        due(6, "link(-1)", x.link(-1), BAD);
        due(6, "link(MOST)", x.link(MOST), BAD);
        due(6, "link(LEAST)", x.link(LEAST), BAD);
        x.pulls();
        due(6, "link(1) behind pulls()", x.link(1), BAD);
    }

    private static void promise7Now() {
        DaisyChain x = chainOfThree();
        x.minutes(4);
        x.water(1);
        due(7, "MINUTE", x.now(0), 4);
        due(7, "WATER", x.now(1), 1);
        due(7, "PICKED", x.now(2), 7);
        due(7, "FLOWERS of THE CHAIN", x.now(3), 3);
        due(7, "INCHES", x.now(4), 10 + 9 + 10);
        due(7, "CAN, all are in it", x.now(5), 0);
        due(7, "how many may be UNDONE", x.now(6), 10);
        due(7, "now(-1)", x.now(-1), BAD);
        due(7, "now(7)", x.now(7), BAD);
        due(7, "now(LEAST)", x.now(LEAST), BAD);
        DaisyChain y = Check.told("d4 20 1;d3 15 1;d2 10 1;d3 9 1;");
        due(7, "CAN, none PICKED", y.now(5), 0);
        y.picks(3);
        y.picks(0);
        due(7, "PICKED", y.now(2), 9);
        due(7, "CAN, as the first one any", y.now(5), 9);
        y.picks(2);
        y.threads(0);
        due(7, "CAN, the last one not SLIT", y.now(5), 0);
        y.slits(0, 18, 3);
        due(7, "CAN, the last one OPEN", y.now(5), 0);
        y.slits(0, 17, 3);
        due(7, "CAN, LENGTH 3: not who is not PICKED", y.now(5), 4 + 8);
        y.slits(0, 17, 2);
        due(7, "CAN, LENGTH 2", y.now(5), 4);
        y.slits(0, 17, 1);
        due(7, "CAN, LENGTH 1", y.now(5), 0);
        due(7, "INCHES of one", y.now(4), 20);
        due(7, "how many may be UNDONE", y.now(6), 8);
    }

    private static void promise8Picks() {
        DaisyChain x = Check.told(THREE);
        due(8, "picks(-1)", x.picks(-1), BAD);
        due(8, "picks(3)", x.picks(3), BAD);
        due(8, "picks(MOST)", x.picks(MOST), BAD);
        due(8, "refused ones can't be UNDONE", x.now(6), 0);
        due(8, "picks(2)", x.picks(2), 1);
        due(8, "picks(2) again", x.picks(2), STATE);
        due(8, "picks(0)", x.picks(0), 2);
        due(8, "PICKED", x.now(2), 5);
        due(8, "how many may be UNDONE", x.now(6), 2);
        x.minutes(9);
        due(8, "picks(1)", x.picks(1), 3);
        due(8, "DRY of the newest", x.flower(1, 4), 0);
        due(8, "DRY of an older one", x.flower(0, 4), 9);
        due(8, "without FLOWERS", new DaisyChain().picks(0), BAD);
    }

    private static void promise9Slits() {
        DaisyChain x = Check.told("d4 20 7;d3 15 8;d2 10 6;d1 8 1;w3;");
        due(9, "not PICKED", x.slits(0, 5, 2), STATE);
        due(9, "BAD ahead of STATE", x.slits(0, 0, 2), BAD);
        x.picks(0);
        x.picks(1);
        x.picks(3);
        due(9, "PLACE 0", x.slits(0, 0, 2), BAD);
        due(9, "PLACE beyond LONG", x.slits(0, 21, 2), BAD);
        due(9, "PLACE beyond another's LONG", x.slits(1, 16, 2), BAD);
        due(9, "PLACE MOST", x.slits(0, MOST, 2), BAD);
        due(9, "LENGTH 0", x.slits(0, 5, 0), BAD);
        due(9, "LENGTH 10", x.slits(0, 5, 10), BAD);
        due(9, "LENGTH MOST", x.slits(0, 5, MOST), BAD);
        due(9, "no such FLOWER", x.slits(4, 5, 2), BAD);
        due(9, "no such FLOWER", x.slits(-1, 5, 2), BAD);
        due(9, "nothing is SLIT by these", x.flower(0, 5), 0);
        due(9, "least numbers", x.slits(0, 1, 1), 40 - 3 - 1);
        due(9, "anew, LENGTH 9", x.slits(0, 3, 9), 40 - 27 - 3);
        due(9, "PLACE anew", x.flower(0, 5), 3);
        due(9, "LENGTH anew", x.flower(0, 6), 9);
        due(9, "as long as it goes", x.slits(0, 17, 3), 40 - 9 - 17);
        due(9, "OPEN", x.slits(0, 18, 3), 0);
        due(9, "OPEN, PLACE is LONG", x.slits(0, 20, 1), 0);
        due(9, "0 at least", x.slits(3, 1, 7), 0);
        x.minutes(10);
        due(9, "wilted", x.slits(0, 17, 3), 40 - 9 - 17 - 3);
        due(9, "the first one of THE CHAIN, as the last", x.threads(0), 20);
        due(9, "the last one is SLIT anew", x.slits(0, 16, 3), 40 - 9 - 16 - 3);
        x.slits(1, 5, 2);
        x.threads(1);
        due(9, "a LINK", x.slits(0, 15, 3), STATE);
        due(9, "a LINK, BAD first", x.slits(0, 15, 10), BAD);
        due(9, "its PLACE stays", x.flower(0, 5), 16);
        due(9, "the last one", x.slits(1, 6, 2), 30 - 6 - 6 - 3);
        x.pulls();
        due(9, "no LINK any more", x.slits(0, 15, 3), 40 - 9 - 15 - 3);
    }

    private static void promise10Threads() {
        DaisyChain x = Check.told("d4 20 7;d3 15 8;d2 10 6;d4 8 1;w3;");
        due(10, "not PICKED", x.threads(0), STATE);
        due(10, "no such FLOWER", x.threads(4), BAD);
        due(10, "no such FLOWER", x.threads(-1), BAD);
        for (int f = 0; f < 4; f++) {
            x.picks(f);
        }
        due(10, "as the first one any", x.threads(0), 20);
        due(10, "again", x.threads(0), STATE);
        due(10, "the last one not SLIT", x.threads(1), STATE);
        x.slits(0, 18, 3);
        due(10, "the last one OPEN", x.threads(1), STATE);
        x.slits(0, 17, 3);
        due(10, "LENGTH less than THICK", x.threads(3), STATE);
        due(10, "LENGTH is THICK", x.threads(1), 17 + 15);
        x.slits(1, 4, 9);
        due(10, "one that is in it already", x.threads(0), STATE);
        due(10, "LENGTH more than THICK", x.threads(2), 17 + 4 + 10);
        due(10, "link(2)", x.link(2), 2);
        due(10, "refused ones can't be UNDONE", x.now(6), 10);
    }

    private static void promise11Pulls() {
        DaisyChain x = chainOfThree();
        due(11, "pulls()", x.pulls(), 2);
        due(11, "INCHES", x.now(4), 10 + 15);
        due(11, "it may be THREADED again", x.now(5), 4);
        due(11, "pulls()", x.pulls(), 1);
        due(11, "its slit stays", x.flower(1, 7), 15);
        due(11, "it is still PICKED", x.now(2), 7);
        due(11, "pulls()", x.pulls(), 0);
        due(11, "INCHES without", x.now(4), 0);
        int undone = x.now(6);
        due(11, "no CHAIN", x.pulls(), STATE);
        due(11, "refused: no more may be UNDONE", x.now(6), undone);
        due(11, "a new first one", x.threads(2), 10);
    }

    private static void promise12Minutes() {
        DaisyChain x = Check.picked(THREE, 2);
        due(12, "minutes(0)", x.minutes(0), BAD);
        due(12, "minutes(61)", x.minutes(61), BAD);
        due(12, "minutes(-1)", x.minutes(-1), BAD);
        due(12, "minutes(MOST)", x.minutes(MOST), BAD);
        due(12, "minutes(1)", x.minutes(1), 1);
        due(12, "minutes(60)", x.minutes(60), 61);
        due(12, "DRY", x.flower(0, 4), 61);
        due(12, "DRY of one not PICKED", x.flower(2, 4), NONE);
        x.picks(2);
        for (int minute = 121; minute <= 541; minute += 60) {
            due(12, "minutes(60)", x.minutes(60), minute);
        }
        due(12, "minutes(60)", x.minutes(60), STATE);
        due(12, "minutes(61), BAD first", x.minutes(61), BAD);
        due(12, "MINUTE stays", x.now(0), 541);
        due(12, "minutes(59)", x.minutes(59), 600);
        due(12, "minutes(1)", x.minutes(1), STATE);
        due(12, "DRY", x.flower(0, 4), 600);
        due(12, "DRY of the one PICKED later", x.flower(2, 4), 539);
    }

    private static void promise13Water() {
        DaisyChain x = Check.picked(THREE, 1);
        due(13, "water(-1)", x.water(-1), BAD);
        due(13, "water(2)", x.water(2), BAD);
        due(13, "water(MOST)", x.water(MOST), BAD);
        x.minutes(3);
        due(13, "water(1)", x.water(1), 0);
        x.minutes(20);
        due(13, "DRY", x.flower(0, 4), 3);
        due(13, "MINUTE goes on", x.now(0), 23);
        due(13, "water(1) again", x.water(1), 1);
        due(13, "it may be UNDONE all the same", x.now(6), 5);
        due(13, "water(0)", x.water(0), 1);
        due(13, "WATER", x.now(1), 0);
        x.minutes(2);
        due(13, "DRY", x.flower(0, 4), 5);
        due(13, "water(0) again", x.water(0), 0);
    }

    private static void promise14Undo() {
        DaisyChain x = Check.told(THREE);
        due(14, "nothing to undo", x.undo(), STATE);
        x.picks(0);
        x.picks(1);
        x.slits(0, 10, 3);
        x.slits(0, 5, 4);
        x.threads(0);
        x.threads(1);
        x.pulls();
        x.minutes(10);
        x.water(1);
        x.minutes(10);
        due(14, "ten are known", x.now(6), 10);
        due(14, "minutes() with WATER", x.undo(), 9);
        due(14, "MINUTE", x.now(0), 10);
        due(14, "water()", x.undo(), 8);
        due(14, "WATER", x.now(1), 0);
        due(14, "DRY yet", x.flower(0, 4), 10);
        due(14, "minutes()", x.undo(), 7);
        due(14, "MINUTE", x.now(0), 0);
        due(14, "DRY", x.flower(0, 4), 0);
        due(14, "pulls()", x.undo(), 6);
        due(14, "link(1)", x.link(1), 1);
        due(14, "threads()", x.undo(), 5);
        due(14, "FLOWERS of THE CHAIN", x.now(3), 1);
        due(14, "threads()", x.undo(), 4);
        due(14, "FLOWERS of THE CHAIN", x.now(3), 0);
        due(14, "slits() anew", x.undo(), 3);
        due(14, "PLACE", x.flower(0, 5), 10);
        due(14, "LENGTH", x.flower(0, 6), 3);
        due(14, "slits()", x.undo(), 2);
        due(14, "PLACE", x.flower(0, 5), 0);
        due(14, "HOLDS", x.flower(0, 7), NONE);
        due(14, "picks()", x.undo(), 1);
        due(14, "PICKED", x.now(2), 1);
        due(14, "picks()", x.undo(), 0);
        due(14, "none", x.undo(), STATE);
        undoLosesTheOldest();
    }

    private static void undoLosesTheOldest() {
        DaisyChain x = Check.picked(THREE, 2);
        for (int i = 1; i <= 12; i++) {
            x.minutes(1);
        }
        x.seen(7, 1);
        x.rate(0, 0);
        for (int more = 9; more >= 0; more--) {
            due(14, "undo()", x.undo(), more);
        }
        due(14, "older ones are lost", x.undo(), STATE);
        due(14, "MINUTE", x.now(0), 2);
        due(14, "PICKED", x.now(2), 3);
        due(14, "what was SEEN is not UNDONE", x.count(2), 1);
        due(14, "THE TRACE is not UNDONE", x.trace(), 1);
        due(14, "what is done behind undo()", x.minutes(7), 9);
        due(14, "may be UNDONE", x.undo(), 0);
        due(14, "MINUTE", x.now(0), 2);
    }

    private static void promise15Weakest() {
        DaisyChain x = Check.picked("d3 20 1;d3 20 1;d3 20 1;d2 20 1;w9;", 4);
        due(15, "no CHAIN", x.weakest(0), NONE);
        due(15, "no CHAIN", x.weakest(1), NONE);
        due(15, "weakest(-1)", x.weakest(-1), BAD);
        due(15, "weakest(2)", x.weakest(2), BAD);
        x.slits(0, 5, 3);
        x.slits(1, 7, 3);
        x.slits(2, 8, 2);
        x.slits(3, 1, 6);
        x.threads(0);
        due(15, "no LINK", x.weakest(0), NONE);
        x.threads(1);
        due(15, "one LINK", x.weakest(0), 0);
        due(15, "what it HOLDS", x.weakest(1), 30 - 9 - 5);
        x.threads(2);
        x.threads(3);
        due(15, "of several the least", x.weakest(0), 1);
        due(15, "what it HOLDS; not the last one, by 1", x.weakest(1), 14);
        x.minutes(40);
        due(15, "of several alike the first", x.weakest(0), 0);
        due(15, "0 at least", x.weakest(1), 0);
        DaisyChain y = Check.picked("d2 20 1;d3 20 1;d3 20 1;", 3);
        y.slits(2, 5, 3);
        y.slits(1, 6, 3);
        y.threads(2);
        y.threads(1);
        y.threads(0);
        due(15, "as how many-th, not which FLOWER", y.weakest(0), 1);
        DaisyChain z = Check.told("d3 20 1;d3 20 1;d3 20 1;w1;");
        z.picks(1);
        z.minutes(9);
        z.picks(0);
        z.picks(2);
        z.slits(0, 5, 3);
        z.slits(1, 5, 3);
        z.threads(0);
        z.threads(1);
        z.threads(2);
        due(15, "9 by 10 is 0: alike yet, so the first", z.weakest(0), 0);
        z.minutes(1);
        due(15, "10 by 10 is 1", z.weakest(0), 1);
    }

    private static void promise16Hung() {
        due(16, "no CHAIN", new DaisyChain().hung(), NONE);
        DaisyChain x = Check.picked("d9 30 1;d2 20 1;d1 10 1;d1 10 1;w0;", 4);
        x.slits(0, 1, 9);
        x.threads(0);
        due(16, "no LINK", x.hung(), NONE);
        x.slits(1, 16, 1);
        x.threads(1);
        due(16, "it HOLDS enough", x.hung(), NONE);
        x.slits(2, 5, 1);
        x.threads(2);
        due(16, "HOLDS 1, bears 1", x.weakest(1), 1);
        due(16, "just as much as it bears", x.hung(), NONE);
        x.threads(3);
        due(16, "HOLDS 1, bears 2", x.hung(), 1);
        DaisyChain y = Check.picked("d1 10 1;d2 20 1;d2 20 1;d2 20 1;w0;", 4);
        y.slits(1, 13, 2);
        y.slits(2, 13, 2);
        y.slits(3, 4, 2);
        y.threads(1);
        y.threads(2);
        y.threads(3);
        y.threads(0);
        due(16, "of several the first, as how many-th: 1 < 5, 1 < 3", y.hung(), 0);
        y.pulls();
        y.pulls();
        due(16, "1 < 2", y.hung(), 0);
    }

    private static void promise17InTime() {
        due(17, "no CHAIN", new DaisyChain().inTime(50), NONE);
        DaisyChain x = chainOfThree();
        due(17, "inTime(0)", x.inTime(0), BAD);
        due(17, "inTime(100)", x.inTime(100), BAD);
        due(17, "inTime(-1)", x.inTime(-1), BAD);
        due(17, "at once", x.inTime(16), 0);
        due(17, "at once, by far", x.inTime(99), 0);
        due(17, "3 times 4 by 10 is 1", x.inTime(15), 4);
        due(17, "3 times 50 by 10 is 15", x.inTime(1), 50);
        x.water(1);
        due(17, "as if without WATER", x.inTime(15), 4);
        x.water(0);
        x.minutes(3);
        due(17, "DRY is 3", x.inTime(15), 1);
        due(17, "nothing is changed", x.now(0), 3);
        DaisyChain y = Check.picked("d5 30 1;d1 1 1;w1;", 2);
        y.slits(0, 6, 1);
        y.threads(0);
        y.threads(1);
        due(17, "HOLDS 41, in 400 minutes 1", y.inTime(1), NONE);
        due(17, "in 400 minutes less than 2", y.inTime(2), 400);
        due(17, "in 390 minutes less than 3", y.inTime(3), 390);
        y.minutes(1);
        due(17, "in 399 minutes less than 2", y.inTime(2), 399);
        y.minutes(8);
        due(17, "in 401 minutes less than 1: that is too late", y.inTime(1), NONE);
        y.minutes(1);
        due(17, "in 400 minutes less than 1", y.inTime(1), 400);
        for (int i = 0; i < 9; i++) {
            y.minutes(60);
        }
        due(17, "at once, whatever THE MINUTE is", y.inTime(1), 0);
    }

    private static void promise18Props() {
        due(18, "no CHAIN", new DaisyChain().props(0), 0);
        due(18, "no CHAIN", new DaisyChain().props(1), 0);
        due(18, "props(2)", new DaisyChain().props(2), BAD);
        due(18, "props(-1)", new DaisyChain().props(-1), BAD);
        DaisyChain x = chainOfThree();
        due(18, "by the first one alone", x.props(0), 1);
        due(18, "which", x.props(1), 1);
        x.pulls();
        x.pulls();
        due(18, "one FLOWER", x.props(0), 1);
        due(18, "which", x.props(1), 1);
        // HOLDS 4, 6, 1 of four FLOWERS of THICK 2
        DaisyChain y = Check.picked("d2 20 1;d2 20 1;d2 20 1;d2 20 1;w0;", 4);
        y.slits(0, 10, 2);
        y.slits(1, 8, 2);
        y.slits(2, 13, 2);
        for (int f = 0; f < 4; f++) {
            y.threads(f);
        }
        due(18, "the last one must be hung; then 4 of 4, 2 of 6, 0 of 1", y.props(0), 2);
        due(18, "which", y.props(1), 1 + 8);
        // HOLDS 4, 4, 4 where 6 are borne: hung from 1, 2 or 3 too: the least bits are those of 1
        DaisyChain z = Check.picked("d2 20 1;d2 20 1;d2 20 1;d2 20 1;w0;", 4);
        z.slits(0, 10, 2);
        z.slits(1, 10, 2);
        z.slits(2, 10, 2);
        for (int f = 3; f >= 0; f--) {
            z.slits(f, 10, 2);
            z.threads(f);
        }
        due(18, "how many", z.props(0), 2);
        due(18, "of as few the least, by places", z.props(1), 1 + 2);
        z.minutes(60);
        due(18, "WILT 0", z.props(0), 2);
    }

    private static void promise19Ring() {
        due(19, "no CHAIN", new DaisyChain().ring(), 0);
        DaisyChain x = Check.picked("d3 20 1;d3 20 1;", 2);
        x.slits(0, 5, 3);
        x.threads(0);
        due(19, "one alone", x.ring(), 0);
        x.threads(1);
        due(19, "the last one not SLIT", x.ring(), 0);
        x.slits(1, 5, 2);
        due(19, "LENGTH less than THICK", x.ring(), 0);
        x.slits(1, 5, 3);
        due(19, "LENGTH is THICK", x.ring(), 1);
        x.slits(1, 5, 9);
        due(19, "LENGTH more", x.ring(), 1);
        x.slits(1, 18, 3);
        due(19, "OPEN", x.ring(), 0);
        x.slits(1, 17, 3);
        due(19, "just not OPEN", x.ring(), 1);
        DaisyChain y = Check.picked("d2 20 1;d4 20 1;", 2);
        y.slits(1, 5, 2);
        y.slits(0, 5, 2);
        y.threads(1);
        y.threads(0);
        due(19, "the first one's THICK, not the other's", y.ring(), 0);
    }

    private static void promise20Loves() {
        due(20, "no CHAIN", new DaisyChain().loves(), 0);
        DaisyChain x = Check.picked("d3 20 7;d3 20 3;d3 20 4;", 3);
        x.slits(0, 5, 3);
        x.slits(1, 5, 3);
        due(20, "PICKED alone is not enough", x.loves(), 0);
        x.threads(0);
        due(20, "7", x.loves(), 1);
        x.threads(1);
        due(20, "7 and 3", x.loves(), 0);
        x.threads(2);
        due(20, "7, 3 and 4", x.loves(), 0);
        x.pulls();
        x.pulls();
        due(20, "7", x.loves(), 1);
    }

    private static void promise21BestSlit() {
        DaisyChain x = Check.told("d3 20 1;d1 4 1;d9 30 1;w3;");
        due(21, "not PICKED", x.bestSlit(0, 2, 10), STATE);
        due(21, "BAD first", x.bestSlit(0, 0, 10), BAD);
        x.picks(0);
        x.picks(1);
        x.picks(2);
        due(21, "bestSlit(3, 1, 0)", x.bestSlit(3, 1, 0), BAD);
        due(21, "bestSlit(-1, 1, 0)", x.bestSlit(-1, 1, 0), BAD);
        due(21, "t 10", x.bestSlit(0, 10, 0), BAD);
        due(21, "v 100", x.bestSlit(0, 1, 100), BAD);
        due(21, "v -1", x.bestSlit(0, 1, -1), BAD);
        due(21, "30 - 6 - 14", x.bestSlit(0, 2, 10), 14);
        due(21, "30 - 6 - 18: just not OPEN", x.bestSlit(0, 2, 6), 18);
        due(21, "not OPEN is more", x.bestSlit(0, 2, 5), 18);
        due(21, "30 - 6 - 1", x.bestSlit(0, 2, 23), 1);
        due(21, "nowhere", x.bestSlit(0, 2, 24), NONE);
        due(21, "v 0 holds anywhere", x.bestSlit(1, 3, 0), 1);
        due(21, "v 1: 10 - 9 - 0", x.bestSlit(1, 3, 1), NONE);
        due(21, "OPEN anywhere", x.bestSlit(1, 4, 0), NONE);
        due(21, "OPEN anywhere, by far", x.bestSlit(1, 9, 0), NONE);
        due(21, "90 - 27 - 21", x.bestSlit(2, 9, 42), 21);
        x.minutes(13);
        due(21, "wilted by 3", x.bestSlit(0, 2, 10), 11);
        x.threads(0);
        x.slits(0, 5, 5);
        due(21, "whatever is SLIT, in THE CHAIN or not", x.bestSlit(0, 2, 10), 11);
        due(21, "nothing is changed", x.flower(0, 5), 5);
        x.minutes(47);
        due(21, "t 1, wilted by 18", x.bestSlit(0, 1, 1), 30 - 3 - 18 - 1);
    }

    private static void promise22Longest() {
        DaisyChain x = Check.told("d3 20 1;d2 15 1;d4 25 1;w3;");
        due(22, "nothing is PICKED", x.longest(10, 0), NONE);
        due(22, "nothing is PICKED", x.longest(10, 1), NONE);
        due(22, "BAD first", x.longest(100, 0), BAD);
        due(22, "v -1", x.longest(-1, 0), BAD);
        due(22, "what 2", x.longest(0, 2), BAD);
        due(22, "what -1", x.longest(0, -1), BAD);
        x.picks(0);
        due(22, "one", x.longest(99, 0), 20);
        due(22, "one", x.longest(99, 1), 1);
        x.picks(1);
        // 0 for 1: 18 and 15; 1 for 0: 12 and 20
        due(22, "two", x.longest(0, 0), 33);
        due(22, "two", x.longest(0, 1), 2);
        // 0 for 1: 24 less v; 1 for 0: 11 less v
        due(22, "14 and 15", x.longest(10, 0), 29);
        due(22, "4 and 15 are less than LONG of 0", x.longest(20, 0), 20);
        due(22, "the most is of one", x.longest(20, 1), 1);
        x.picks(2);
        due(22, "2 for 0: 21; 0 for 1: 14; 15", x.longest(10, 0), 50);
        due(22, "three", x.longest(10, 1), 3);
        x.threads(1);
        due(22, "in THE CHAIN or not", x.longest(10, 0), 50);
        DaisyChain y = Check.picked("d9 30 1;d1 1 1;d1 2 1;w0;", 3);
        due(22, "29 and 2, or 29, 1 and 1", y.longest(0, 0), 31);
        due(22, "the fewest by which it is so", y.longest(0, 1), 2);
    }

    private static void promise23Fewest() {
        due(23, "nothing is PICKED", new DaisyChain().fewest(1, 0), NONE);
        DaisyChain x = Check.picked("d3 20 1;d2 15 1;d4 25 1;w3;", 3);
        due(23, "n 0", x.fewest(0, 0), BAD);
        due(23, "n 301", x.fewest(301, 0), BAD);
        due(23, "v -1", x.fewest(1, -1), BAD);
        due(23, "v 100", x.fewest(1, 100), BAD);
        due(23, "n 300", x.fewest(300, 0), NONE);
        due(23, "n 1", x.fewest(1, 99), 1);
        due(23, "as much as one", x.fewest(25, 99), 1);
        due(23, "more than one, by a hold that none has", x.fewest(26, 99), NONE);
        due(23, "more than one", x.fewest(26, 10), 2);
        due(23, "2 for 0: 21, and 20", x.fewest(41, 10), 2);
        due(23, "more than two", x.fewest(42, 10), 3);
        due(23, "as much as three", x.fewest(50, 10), 3);
        due(23, "more than three", x.fewest(51, 10), NONE);
    }

    private static void promise24Row() {
        due(24, "nothing is PICKED", new DaisyChain().row(1, 0, 0), NONE);
        due(24, "nothing is PICKED, k by far", new DaisyChain().row(1, 0, 99), NONE);
        DaisyChain x = Check.picked("d3 20 1;d2 15 1;d4 25 1;w3;", 3);
        due(24, "n 0", x.row(0, 0, 0), BAD);
        due(24, "n 301", x.row(301, 0, 0), BAD);
        due(24, "v -1", x.row(1, -1, 0), BAD);
        due(24, "v 100", x.row(1, 100, 0), BAD);
        due(24, "k -1", x.row(1, 0, -1), BAD);
        due(24, "k LEAST", x.row(1, 0, LEAST), BAD);
        due(24, "k MOST", x.row(1, 0, MOST), -5);
        due(24, "none", x.row(51, 10, 0), NONE);
        due(24, "of one, the first that is long enough", x.row(15, 0, 0), 0);
        due(24, "of one, the only one", x.row(21, 0, 0), 2);
        due(24, "not so many", x.row(21, 0, 1), -5);
        due(24, "50 of three", x.row(50, 10, 0), 2);
        due(24, "50 of three", x.row(50, 10, 1), 0);
        due(24, "50 of three", x.row(50, 10, 2), 1);
        due(24, "50 of three", x.row(50, 10, 3), -5);
        // all alike: the first row by numbers
        DaisyChain y = Check.picked("d3 10 1;d3 10 1;d3 10 1;d3 10 1;w0;", 4);
        y.undo();
        y.undo();
        y.undo();
        y.picks(3);
        y.picks(2);
        due(24, "by the first one", y.row(15, 0, 0), 0);
        due(24, "by the second", y.row(15, 0, 1), 2);
        due(24, "by the second of three", y.row(24, 0, 1), 2);
        due(24, "by the third of three", y.row(24, 0, 2), 3);
        // 1 has no PLACE for 2: 0, 1, 2 is no row, 0, 2, 1 is one of 59 INCHES
        DaisyChain z = Check.picked("d9 30 1;d1 3 1;d3 30 1;w0;", 3);
        due(24, "who can't be ahead of another", z.row(58, 0, 0), 0);
        due(24, "who can't be ahead of another", z.row(58, 0, 1), 2);
        due(24, "who can't be ahead of another", z.row(58, 0, 2), 1);
    }

    private static void promise25Seen() {
        DaisyChain x = new DaisyChain();
        due(25, "v 0", x.seen(0, 1), BAD);
        due(25, "v 100", x.seen(100, 1), BAD);
        due(25, "v LEAST", x.seen(LEAST, 1), BAD);
        due(25, "tore 2", x.seen(1, 2), BAD);
        due(25, "tore -1", x.seen(1, -1), BAD);
        due(25, "nothing was SEEN", x.count(2), 0);
        for (int i = 1; i <= 5; i++) {
            due(25, "seen(" + i + ")", x.seen(i == 1 ? 1 : 99, 0), i);
        }
        due(25, "the sixth", x.seen(5, 0), FULL);
        due(25, "the sixth, BAD first", x.seen(0, 0), BAD);
        due(25, "count(2)", x.count(2), 5);
        due(25, "it is nothing that may be UNDONE", x.now(6), 0);
    }

    private static void promise26Forget() {
        DaisyChain x = chainOfThree();
        due(26, "nothing", x.forget(), 0);
        x.seen(99, 0);
        x.seen(99, 0);
        due(26, "wilts() ahead of it", x.wilts(), 0);
        due(26, "two", x.forget(), 2);
        due(26, "nothing then", x.forget(), 0);
        due(26, "count(2)", x.count(2), 0);
        due(26, "wilts() behind it", x.wilts(), 1023);
        due(26, "seen() begins anew", x.seen(1, 0), 1);
    }

    private static void promise27Wilts() {
        DaisyChain x = chainOfThree();
        due(27, "nothing was SEEN", x.wilts(), 1023);
        x.minutes(20);
        // HOLDS 21 and 15, less 2 times WILT
        x.seen(10, 1);
        due(27, "15 less 2 W below 10: W from 3 on", x.wilts(), 1016);
        x.seen(5, 0);
        due(27, "15 less 2 W not below 5: W to 5", x.wilts(), 8 + 16 + 32);
        x.minutes(20);
        x.pulls();
        x.seen(6, 1);
        due(27, "21 less 4 W below 6: W from 4 on", x.wilts(), 16 + 32);
        x.minutes(60);
        x.undo();
        due(27, "as it was then, whatever came later", x.wilts(), 16 + 32);
        x.pulls();
        x.seen(99, 0);
        due(27, "without LINKS nothing tears", x.wilts(), 16 + 32);
        x.seen(1, 1);
        due(27, "without LINKS nothing tears", x.wilts(), 0);
    }

    private static void promise28Odds() {
        DaisyChain x = chainOfThree();
        due(28, "p -1", x.odds(-1, 0, 0), BAD);
        due(28, "p 11", x.odds(11, 0, 0), BAD);
        due(28, "k -1", x.odds(5, -1, 0), BAD);
        due(28, "k 8", x.odds(5, 8, 0), BAD);
        due(28, "what -1", x.odds(5, 0, -1), BAD);
        due(28, "what 2", x.odds(5, 0, 2), BAD);
        dueOdds(x, 3, 0, 49, 100);
        dueOdds(x, 3, 1, 91, 100);
        dueOdds(x, 3, 2, 1, 1);
        dueOdds(x, 5, 0, 1, 4);
        dueOdds(x, 5, 1, 3, 4);
        dueOdds(x, 4, 0, 9, 25);
        dueOdds(x, 0, 0, 1, 1);
        dueOdds(x, 10, 0, 0, 1);
        dueOdds(x, 10, 1, 0, 1);
        dueOdds(x, 10, 2, 1, 1);
        dueOdds(x, 7, 7, 1, 1);
        x.pulls();
        dueOdds(x, 6, 0, 2, 5);
        x.pulls();
        dueOdds(x, 10, 0, 1, 1);
        x.pulls();
        dueOdds(x, 10, 0, 1, 1);
        DaisyChain y = Check.picked("d1 9 1;d1 9 1;d1 9 1;d1 9 1;d1 9 1;d1 9 1;d1 9 1;", 7);
        for (int f = 0; f < 7; f++) {
            y.slits(f, 1, 1);
            y.threads(f);
        }
        dueOdds(y, 1, 0, 531441, 1000000);
        dueOdds(y, 1, 1, 885735 / 5, 1000000 / 5);
        dueOdds(y, 5, 5, 63, 64);
        dueOdds(y, 9, 5, 468559, 1000000);
    }

    private static void dueOdds(DaisyChain x, int p, int k, int upper, int lower) {
        due(28, "odds(" + p + ", " + k + ", 0)", x.odds(p, k, 0), upper);
        due(28, "odds(" + p + ", " + k + ", 1)", x.odds(p, k, 1), lower);
    }

    private static void promise29Rate() {
        DaisyChain x = Check.told("d4 20 7;d3 15 8;d2 10 6;");
        due(29, "kind -1", x.rate(-1, 0), NO);
        due(29, "kind 6", x.rate(6, 0), NO);
        due(29, "no such FLOWER", x.rate(0, 3), NO);
        due(29, "no such FLOWER", x.rate(0, -1), NO);
        due(29, "no such FLOWER", x.rate(5, MOST), NO);
        due(29, "refused: THE TRACE stays", x.trace(), 0);
        dueRates(x, 1, new int[] {3, 18, 3, 36, 4, 11});
        x.picks(1);
        x.minutes(30);
        dueRates(x, 1, new int[] {3, 18, -27, 36, -26, 11});
        dueRates(x, 2, new int[] {2, 12, 2, 24, 4, 8});
        x.undo();
        x.undo();
        dueRates(x, 1, new int[] {3, 18, 3, 36, 4, 11});
        due(29, "without FLOWERS", new DaisyChain().rate(0, 0), NO);
    }

    private static void dueRates(DaisyChain x, int f, int[] rates) {
        for (int kind = 0; kind < rates.length; kind++) {
            due(29, "rate(" + kind + ", " + f + ")", x.rate(kind, f), rates[kind]);
        }
    }

    private static void promise30Keep() {
        DaisyChain x = chainOfThree();
        due(30, "image -1", x.keep(-1), BAD);
        due(30, "image 2", x.keep(2), BAD);
        due(30, "image MOST", x.keep(MOST), BAD);
        due(30, "at once", x.keep(0), 0);
        x.minutes(12);
        int undone = x.now(6);
        due(30, "later", x.keep(1), 12);
        due(30, "it is nothing that may be UNDONE", x.now(6), undone);
        due(30, "one is not the other", x.back(0), 0);
        due(30, "nor the other the one", x.back(1), 12);
        x.minutes(5);
        due(30, "kept anew", x.keep(0), 17);
        x.minutes(5);
        due(30, "as kept anew", x.back(0), 17);
    }

    private static void promise31Back() {
        DaisyChain x = chainOfThree();
        due(31, "image -1", x.back(-1), BAD);
        due(31, "image 2", x.back(2), BAD);
        due(31, "none was kept", x.back(0), STATE);
        x.water(1);
        x.minutes(6);
        x.keep(0);
        due(31, "the other one was not kept", x.back(1), STATE);
        due(31, "refused: it may be UNDONE yet", x.now(6), 10);
        x.water(0);
        x.minutes(10);
        x.pulls();
        x.pulls();
        x.slits(1, 3, 4);
        x.slits(0, 3, 4);
        x.seen(50, 1);
        x.rate(0, 0);
        due(31, "MINUTE", x.back(0), 6);
        due(31, "WATER", x.now(1), 1);
        due(31, "PICKED", x.now(2), 7);
        due(31, "INCHES", x.now(4), 29);
        due(31, "link(2)", x.link(2), 2);
        due(31, "DRY", x.flower(0, 4), 0);
        due(31, "PLACE", x.flower(1, 5), 9);
        due(31, "LENGTH", x.flower(1, 6), 2);
        due(31, "nothing can be UNDONE", x.now(6), 0);
        due(31, "undo()", x.undo(), STATE);
        due(31, "what was SEEN stays", x.count(2), 1);
        due(31, "THE TRACE stays", x.trace(), 1);
        due(31, "what is done behind it", x.pulls(), 2);
        due(31, "the IMAGE is as it was", x.back(0), 6);
        due(31, "FLOWERS of THE CHAIN", x.now(3), 3);
        DaisyChain y = Check.told(THREE);
        y.keep(1);
        y.picks(0);
        y.slits(0, 1, 1);
        due(31, "to nothing PICKED", y.back(1), 0);
        due(31, "PICKED", y.now(2), 0);
        due(31, "PLACE", y.flower(0, 5), 0);
    }

    private static void promise32Count() {
        DaisyChain x = Check.told(THREE);
        x.seen(1, 0);
        x.seen(1, 0);
        Check.type(x, "abcd");
        due(32, "FLOWERS", x.count(0), 3);
        due(32, "WILT", x.count(1), 3);
        due(32, "SEEN", x.count(2), 2);
        due(32, "letters", x.count(3), 4);
        due(32, "count(-1)", x.count(-1), BAD);
        due(32, "count(4)", x.count(4), BAD);
        due(32, "count(MOST)", x.count(MOST), BAD);
    }

    private static void promise33Trace() {
        DaisyChain x = Check.told(THREE);
        long[] added = {1, 11, 101, 1011, 10101, 100001};
        long sum = 0;
        for (int round = 0; round < 3; round++) {
            for (int kind = 0; kind < added.length; kind++) {
                x.rate(kind, round);
                sum += added[kind];
                due(33, "behind rate(" + kind + ", " + round + ")", x.trace(), sum);
            }
        }
        x.rate(6, 0);
        x.rate(0, 7);
        due(33, "behind refused ones", x.trace(), sum);
    }
}

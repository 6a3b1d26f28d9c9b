import java.util.ArrayList;
import java.util.List;
import java.util.function.Supplier;

/** Two objects made alike, of which one gets a call more: whether that call changed anything. */
final class Twins {
    /** As many as are read at each step back, so that a run stays within 512 calls. */
    private static final int READ_AT_EACH_STEP = 4;

    interface Call {
        long by(DaisyChain x);
    }

    private Twins() {
    }

    static void unchanged(String what, Supplier<DaisyChain> made, Call call, long answer) {
        DaisyChain called = made.get();
        Check.due(what, call.by(called), answer);
        List<String> got = told(called);
        List<String> want = told(made.get());
        int same = 0;
        while (same < got.size() && same < want.size() && got.get(same).equals(want.get(same))) {
            same++;
        }
        boolean alike = got.size() == want.size() && same == want.size();
        String first = alike ? "" : ": " + (same < got.size() ? got.get(same) : "less is told")
            + " instead of " + (same < want.size() ? want.get(same) : "nothing more");
        Check.holds(what + " changes nothing" + first, alike);
    }

    /** All that an object tells: as it is, at each step back, in its IMAGES, and by its text. */
    private static List<String> told(DaisyChain x) {
        List<String> told = new ArrayList<>();
        tellAll(told, x);
        int more = x.undo();
        while (more >= 0) {
            told.add("undo() " + more);
            tellNow(told, x);
            more = x.undo();
        }
        for (int image = 0; image < 2; image++) {
            told.add("back(" + image + ") " + x.back(image));
            tellNow(told, x);
        }
        told.add("forget() " + x.forget());
        told.add("meadow() " + x.meadow());
        told.add("letters " + x.count(3) + ", flowers " + x.count(0) + ", wilt " + x.count(1));
        return told;
    }

    private static void tellAll(List<String> told, DaisyChain x) {
        for (int what = 0; what < 4; what++) {
            told.add("count(" + what + ") " + x.count(what));
        }
        for (int what = 0; what < 7; what++) {
            told.add("now(" + what + ") " + x.now(what));
        }
        int chained = x.now(3);
        for (int k = 0; k < chained; k++) {
            told.add("link(" + k + ") " + x.link(k));
        }
        int flowers = x.count(0);
        for (int f = 0; f < flowers; f++) {
            for (int what = 0; what < 8; what++) {
                told.add("flower(" + f + ", " + what + ") " + x.flower(f, what));
            }
        }
        told.add("trace() " + x.trace());
        told.add("wilts() " + x.wilts());
    }

    private static void tellNow(List<String> told, DaisyChain x) {
        for (int what = 0; what < 5; what++) {
            told.add("now(" + what + ") " + x.now(what));
        }
        int flowers = Math.min(READ_AT_EACH_STEP, x.count(0));
        for (int f = 0; f < flowers; f++) {
            for (int what = 4; what < 7; what++) {
                told.add("flower(" + f + ", " + what + ") " + x.flower(f, what));
            }
        }
    }

    // ---- objects of which a refused call could change a lot

    /**
     * Four FLOWERS, the last of them not PICKED; 0 and 1 are LINKS, 2 is SLIT behind them; both
     * IMAGES kept, ten that may be UNDONE, two SEEN, a TRACE, and a text with a FAULT.
     */
    static DaisyChain busy() {
        DaisyChain x = Check.told("d4 20 7;d3 15 8;d2 10 6;d5 12 9;w3;");
        Check.due("picks(0)", x.picks(0), 1);
        Check.due("picks(1)", x.picks(1), 2);
        Check.due("slits(0, 10, 3)", x.slits(0, 10, 3), 21);
        Check.due("threads(0)", x.threads(0), 20);
        Check.due("keep(0)", x.keep(0), 0);
        Check.due("minutes(7)", x.minutes(7), 7);
        Check.due("picks(2)", x.picks(2), 3);
        Check.due("threads(1)", x.threads(1), 25);
        Check.due("slits(1, 9, 2)", x.slits(1, 9, 2), 13);
        Check.due("threads(2)", x.threads(2), 29);
        Check.due("water(1)", x.water(1), 0);
        Check.due("keep(1)", x.keep(1), 7);
        Check.due("minutes(2)", x.minutes(2), 9);
        Check.due("slits(2, 3, 2)", x.slits(2, 3, 2), 11);
        Check.due("seen(12, 0)", x.seen(12, 0), 1);
        Check.due("water(0)", x.water(0), 1);
        Check.due("minutes(4)", x.minutes(4), 13);
        Check.due("seen(15, 1)", x.seen(15, 1), 2);
        Check.due("water(1)", x.water(1), 0);
        Check.due("rate(4, 1)", x.rate(4, 1), -7);
        Check.type(x, "w5;d9 x");
        return x;
    }
}

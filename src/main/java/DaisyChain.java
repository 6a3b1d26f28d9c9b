/**
 * Daisies picked in a meadow, slit and threaded to a chain that wilts by minutes.
 * The words in the comments (FLOWER, LINK, HOLDS, ..) are those of the document.
 */
public final class DaisyChain {
    public static final int BAD = -1, STATE = -2, FULL = -3, NONE = -9;
    public static final int NO = -1000000;

    private static final int NOT_SO_MANY = -5;
    private static final int FAULT_BASE = -10;

    private static final int MOST_LETTERS = 200;
    private static final int MOST_FLOWERS = 7;
    private static final int ALL_SETS = 1 << MOST_FLOWERS;
    private static final int MOST_THICK = 9;
    private static final int MOST_LONG = 30;
    private static final int MOST_PETALS = 60;
    private static final int MOST_WILT = 9;
    private static final int FIRST_WILT = 2;
    private static final int MOST_LENGTH = 9;
    private static final int LAST_MINUTE = 600;
    private static final int MOST_MINUTES_AT_ONCE = 60;
    private static final int MOST_MINUTES_AHEAD = 400;
    private static final int MOST_PULL = 99;
    private static final int MOST_INCHES_ASKED = 300;
    private static final int MOST_UNDONE = 10;
    private static final int MOST_SEEN = 5;
    private static final int IMAGES = 2;

    private final Text text = new Text();
    private final Told told = new Told();
    private final Moment moment = new Moment();
    private final Moment[] past = new Moment[MOST_UNDONE];
    private int known = 0;
    private final Moment[] images = new Moment[IMAGES];
    private final boolean[] kept = new boolean[IMAGES];
    private final Sight[] sights = new Sight[MOST_SEEN];
    private int sightCount = 0;
    private final RowSearch search = new RowSearch();
    private final int[] ways = new int[MOST_FLOWERS + 1];
    private long trace = 0;

    public DaisyChain() {
        for (int i = 0; i < MOST_UNDONE; i++) {
            past[i] = new Moment();
        }
        for (int i = 0; i < IMAGES; i++) {
            images[i] = new Moment();
        }
        for (int i = 0; i < MOST_SEEN; i++) {
            sights[i] = new Sight();
        }
    }

    // ---- the meadow

    public int type(int letter) {
        if (!isWithin(letter, 0, 255)) {
            return BAD;
        }
        if (text.size >= MOST_LETTERS) {
            return FULL;
        }
        text.letters[text.size] = letter;
        text.size++;
        return text.size;
    }

    public int clear() {
        int had = text.size;
        text.size = 0;
        return had;
    }

    public int meadow() {
        if (!text.reads()) {
            return FAULT_BASE - text.tokenPlace;
        }
        told.take(text.draft);
        text.size = 0;
        moment.restart();
        known = 0;
        sightCount = 0;
        for (int i = 0; i < IMAGES; i++) {
            kept[i] = false;
        }
        return text.items;
    }

    public int flower(int f, int what) {
        if (!isFlower(f)) {
            return BAD;
        }
        switch (what) {
            case 0: return told.thick[f];
            case 1: return told.stalk[f];
            case 2: return told.petals[f];
            case 3: return moment.isPicked(f) ? 1 : 0;
            case 4: return moment.isPicked(f) ? moment.dry[f] : NONE;
            case 5: return moment.slitPlace[f];
            case 6: return moment.slitLength[f];
            case 7: return moment.isSlit(f) ? holds(f) : NONE;
            default: return BAD;
        }
    }

    public int link(int k) {
        return isWithin(k, 0, moment.chained - 1) ? moment.chain[k] : BAD;
    }

    public int now(int what) {
        switch (what) {
            case 0: return moment.minute;
            case 1: return moment.water;
            case 2: return moment.picked;
            case 3: return moment.chained;
            case 4: return inches();
            case 5: return canBeThreaded();
            case 6: return known;
            default: return BAD;
        }
    }

    // ---- what is done

    public int picks(int f) {
        if (!isFlower(f)) {
            return BAD;
        }
        if (moment.isPicked(f)) {
            return STATE;
        }
        remember();
        moment.picked |= 1 << f;
        moment.dry[f] = 0;
        return Integer.bitCount(moment.picked);
    }

    public int slits(int f, int place, int length) {
        if (!isFlower(f) || !isWithin(place, 1, told.stalk[f]) || !isWithin(length, 1, MOST_LENGTH)) {
            return BAD;
        }
        if (!moment.isPicked(f) || moment.isLink(f)) {
            return STATE;
        }
        remember();
        moment.slitPlace[f] = place;
        moment.slitLength[f] = length;
        return holds(f);
    }

    public int threads(int f) {
        if (!isFlower(f)) {
            return BAD;
        }
        if (!fitsBehind(f) || moment.chained >= MOST_FLOWERS) {
            return STATE;
        }
        remember();
        moment.chain[moment.chained] = f;
        moment.chained++;
        return inches();
    }

    public int pulls() {
        if (moment.chained < 1) {
            return STATE;
        }
        remember();
        moment.chained--;
        return moment.chain[moment.chained];
    }

    public int minutes(int n) {
        if (!isWithin(n, 1, MOST_MINUTES_AT_ONCE)) {
            return BAD;
        }
        if (moment.minute + n > LAST_MINUTE) {
            return STATE;
        }
        remember();
        moment.minute += n;
        if (moment.water == 0) {
            dryBy(n);
        }
        return moment.minute;
    }

    public int water(int is) {
        if (!isWithin(is, 0, 1)) {
            return BAD;
        }
        remember();
        int was = moment.water;
        moment.water = is;
        return was;
    }

    public int undo() {
        if (known < 1) {
            return STATE;
        }
        known--;
        moment.take(past[known]);
        return known;
    }

    // ---- what it bears

    public int weakest(int what) {
        if (!isWithin(what, 0, 1)) {
            return BAD;
        }
        int weakest = weakestLink(0);
        if (weakest == NONE) {
            return NONE;
        }
        return what == 0 ? weakest : holds(moment.chain[weakest]);
    }

    public int hung() {
        int first = NONE;
        int borne = 0;
        for (int k = moment.chained - 1; k >= 0; k--) {
            int f = moment.chain[k];
            if (k < moment.linkCount() && holds(f) < borne) {
                first = k;
            }
            borne += told.thick[f];
        }
        return first;
    }

    public int inTime(int v) {
        if (!isWithin(v, 1, MOST_PULL)) {
            return BAD;
        }
        for (int later = 0; later <= MOST_MINUTES_AHEAD; later++) {
            int weakest = weakestLink(later);
            if (weakest != NONE && holdsLater(moment.chain[weakest], later) < v) {
                return later;
            }
        }
        return NONE;
    }

    public int props(int what) {
        if (!isWithin(what, 0, 1)) {
            return BAD;
        }
        int best = leastProps();
        return what == 0 ? Integer.bitCount(best) : best;
    }

    public int ring() {
        if (moment.chained < 2) {
            return 0;
        }
        return takes(moment.lastOne(), moment.chain[0]) ? 1 : 0;
    }

    public int loves() {
        int petals = 0;
        for (int k = 0; k < moment.chained; k++) {
            petals += told.petals[moment.chain[k]];
        }
        return petals % 2;
    }

    // ---- how to make it

    public int bestSlit(int f, int t, int v) {
        if (!isFlower(f) || !isWithin(t, 1, MOST_THICK) || !isHold(v)) {
            return BAD;
        }
        if (!moment.isPicked(f)) {
            return STATE;
        }
        int place = bestPlace(told, moment, f, t, v);
        return place > 0 ? place : NONE;
    }

    public int longest(int v, int what) {
        if (!isHold(v) || !isWithin(what, 0, 1)) {
            return BAD;
        }
        if (moment.picked == 0) {
            return NONE;
        }
        search.prepare(told, moment, v);
        int most = search.mostInches();
        return what == 0 ? most : search.fewestFlowers(most);
    }

    public int fewest(int n, int v) {
        if (!isWithin(n, 1, MOST_INCHES_ASKED) || !isHold(v)) {
            return BAD;
        }
        search.prepare(told, moment, v);
        return search.fewestFlowers(n);
    }

    public int row(int n, int v, int k) {
        if (!isWithin(n, 1, MOST_INCHES_ASKED) || !isHold(v) || k < 0) {
            return BAD;
        }
        search.prepare(told, moment, v);
        int size = search.fewestFlowers(n);
        if (size == NONE) {
            return NONE;
        }
        return k < size ? search.flowerOfFirstRow(n, size, k) : NOT_SO_MANY;
    }

    // ---- what was seen

    public int seen(int v, int tore) {
        if (!isWithin(v, 1, MOST_PULL) || !isWithin(tore, 0, 1)) {
            return BAD;
        }
        if (sightCount >= MOST_SEEN) {
            return FULL;
        }
        Sight sight = sights[sightCount];
        sight.pull = v;
        sight.tore = tore == 1;
        sight.links = moment.linkCount();
        for (int k = 0; k < sight.links; k++) {
            int f = moment.chain[k];
            sight.fresh[k] = freshHold(f);
            sight.dry[k] = moment.dry[f];
        }
        sightCount++;
        return sightCount;
    }

    public int forget() {
        int had = sightCount;
        sightCount = 0;
        return had;
    }

    public int wilts() {
        int bits = 0;
        for (int wilt = 0; wilt <= MOST_WILT; wilt++) {
            if (agreesWithAllSeen(wilt)) {
                bits |= 1 << wilt;
            }
        }
        return bits;
    }

    public int odds(int p, int k, int what) {
        if (!isWithin(p, 0, 10) || !isWithin(k, 0, MOST_FLOWERS) || !isWithin(what, 0, 1)) {
            return BAD;
        }
        int links = moment.linkCount();
        countWays(p, links);
        int upper = 0;
        for (int slipped = 0; slipped <= k; slipped++) {
            upper += ways[slipped];
        }
        int lower = 1;
        for (int i = 0; i < links; i++) {
            lower *= 10;
        }
        // The lower number is 10 times itself, so 2 and 5 are all that both can share.
        for (int i = 0; i < links; i++) {
            if (upper % 2 == 0 && lower % 2 == 0) {
                upper /= 2;
                lower /= 2;
            }
            if (upper % 5 == 0 && lower % 5 == 0) {
                upper /= 5;
                lower /= 5;
            }
        }
        return what == 0 ? upper : lower;
    }

    // ---- kinds, images

    public int rate(int kind, int f) {
        if (!isFlower(f)) {
            return NO;
        }
        switch (kind) {
            case 0: return rateFlower(f);
            case 1: return rateStalk(f);
            case 2: return rateHead(f);
            case 3: return rateNail(f);
            case 4: return rateCrown(f);
            case 5: return rateBud(f);
            default: return NO;
        }
    }

    public int keep(int image) {
        if (!isWithin(image, 0, IMAGES - 1)) {
            return BAD;
        }
        images[image].take(moment);
        kept[image] = true;
        return moment.minute;
    }

    public int back(int image) {
        if (!isWithin(image, 0, IMAGES - 1)) {
            return BAD;
        }
        if (!kept[image]) {
            return STATE;
        }
        moment.take(images[image]);
        known = 0;
        return moment.minute;
    }

    public int count(int what) {
        switch (what) {
            case 0: return told.flowers;
            case 1: return told.wilt;
            case 2: return sightCount;
            case 3: return text.size;
            default: return BAD;
        }
    }

    public long trace() {
        return trace;
    }

    // ---- what numbers may be

    private static boolean isWithin(int number, int least, int most) {
        return number >= least && number <= most;
    }

    private static boolean isHold(int v) {
        return isWithin(v, 0, MOST_PULL);
    }

    private boolean isFlower(int f) {
        return isWithin(f, 0, told.flowers - 1);
    }

    // ---- how much a slit holds

    private static int strength(int fresh, int wilt, int dry) {
        return Math.max(0, fresh - wilt * dry / 10);
    }

    private boolean isOpen(int f) {
        return moment.slitPlace[f] + moment.slitLength[f] > told.stalk[f];
    }

    /** What a slit holds before it wilts; none of an OPEN one, so that it can never hold more. */
    private int freshHold(int f) {
        return isOpen(f) ? 0 : 10 * told.thick[f] - 3 * moment.slitLength[f] - moment.slitPlace[f];
    }

    private int holds(int f) {
        return holdsLater(f, 0);
    }

    private int holdsLater(int f, int later) {
        return strength(freshHold(f), told.wilt, moment.dry[f] + later);
    }

    /** The greatest PLACE for a slit of LENGTH t that holds v; below 1 if there is none. */
    private static int bestPlace(Told told, Moment moment, int f, int t, int v) {
        int closed = told.stalk[f] - t;
        // HOLDS is never below 0, so that a hold of 0 asks nothing of the PLACE.
        if (v == 0) {
            return closed;
        }
        int wilted = told.wilt * moment.dry[f] / 10;
        return Math.min(closed, 10 * told.thick[f] - 3 * t - wilted - v);
    }

    // ---- the chain

    /** Whether the slit of one FLOWER is such that the other's stalk goes through. */
    private boolean takes(int slit, int other) {
        return moment.isSlit(slit) && !isOpen(slit) && moment.slitLength[slit] >= told.thick[other];
    }

    private boolean fitsBehind(int f) {
        if (!moment.isPicked(f) || moment.isInChain(f)) {
            return false;
        }
        return moment.chained == 0 || takes(moment.lastOne(), f);
    }

    private int canBeThreaded() {
        int bits = 0;
        for (int f = 0; f < told.flowers; f++) {
            if (fitsBehind(f)) {
                bits |= 1 << f;
            }
        }
        return bits;
    }

    private int inches() {
        if (moment.chained == 0) {
            return 0;
        }
        int sum = told.stalk[moment.lastOne()];
        for (int k = 0; k < moment.linkCount(); k++) {
            sum += moment.slitPlace[moment.chain[k]];
        }
        return sum;
    }

    private int weakestLink(int later) {
        int weakest = NONE;
        int least = 0;
        for (int k = 0; k < moment.linkCount(); k++) {
            int held = holdsLater(moment.chain[k], later);
            if (weakest == NONE || held < least) {
                weakest = k;
                least = held;
            }
        }
        return weakest;
    }

    private int leastProps() {
        int best = 0;
        // Only odd sets: the first FLOWER is always hung.
        for (int set = 1; set < 1 << moment.chained; set += 2) {
            boolean fewer = best == 0 || Integer.bitCount(set) < Integer.bitCount(best);
            if (fewer && bearsHungFrom(set)) {
                best = set;
            }
        }
        return best;
    }

    private boolean bearsHungFrom(int set) {
        int borne = 0;
        for (int k = moment.chained - 1; k >= 0; k--) {
            int f = moment.chain[k];
            if (k < moment.linkCount() && borne > holds(f)) {
                return false;
            }
            borne = (set >> k & 1) == 1 ? 0 : borne + told.thick[f];
        }
        return true;
    }

    // ---- minutes and what is undone

    private void dryBy(int n) {
        for (int f = 0; f < told.flowers; f++) {
            if (moment.isPicked(f)) {
                moment.dry[f] += n;
            }
        }
    }

    private void remember() {
        if (known >= MOST_UNDONE) {
            Moment lost = past[0];
            for (int i = 1; i < MOST_UNDONE; i++) {
                past[i - 1] = past[i];
            }
            past[MOST_UNDONE - 1] = lost;
            known = MOST_UNDONE - 1;
        }
        past[known].take(moment);
        known++;
    }

    // ---- what was seen, and odds

    private boolean agreesWithAllSeen(int wilt) {
        for (int i = 0; i < sightCount; i++) {
            if (sights[i].tearsBy(wilt) != sights[i].tore) {
                return false;
            }
        }
        return true;
    }

    /** In how many of 10 to the power of links ways so many slip. */
    private void countWays(int p, int links) {
        for (int slipped = 0; slipped <= MOST_FLOWERS; slipped++) {
            ways[slipped] = slipped == 0 ? 1 : 0;
        }
        for (int i = 0; i < links; i++) {
            for (int slipped = MOST_FLOWERS; slipped > 0; slipped--) {
                ways[slipped] = ways[slipped] * (10 - p) + ways[slipped - 1] * p;
            }
            ways[0] *= 10 - p;
        }
    }

    // ---- kinds: each asks the one above it

    private int rateFlower(int f) {
        trace += 1;
        return told.thick[f];
    }

    private int rateStalk(int f) {
        trace += 10;
        return rateFlower(f) + told.stalk[f];
    }

    private int rateHead(int f) {
        trace += 100;
        int dry = moment.isPicked(f) ? moment.dry[f] : 0;
        return rateFlower(f) - dry;
    }

    private int rateNail(int f) {
        trace += 1000;
        return 2 * rateStalk(f);
    }

    private int rateCrown(int f) {
        trace += 10000;
        return rateHead(f) + f;
    }

    private int rateBud(int f) {
        trace += 100000;
        return rateFlower(f) + told.petals[f];
    }

    /** What a text tells of the FLOWERS and of WILT. */
    private static final class Told {
        int flowers = 0;
        int wilt = FIRST_WILT;
        final int[] thick = new int[MOST_FLOWERS];
        final int[] stalk = new int[MOST_FLOWERS];
        final int[] petals = new int[MOST_FLOWERS];

        void restart() {
            flowers = 0;
            wilt = FIRST_WILT;
        }

        void take(Told other) {
            flowers = other.flowers;
            wilt = other.wilt;
            System.arraycopy(other.thick, 0, thick, 0, MOST_FLOWERS);
            System.arraycopy(other.stalk, 0, stalk, 0, MOST_FLOWERS);
            System.arraycopy(other.petals, 0, petals, 0, MOST_FLOWERS);
        }
    }

    /** All that is done to the FLOWERS: what an IMAGE keeps and what is UNDONE. */
    private static final class Moment {
        int minute = 0;
        int water = 0;
        int picked = 0;
        final int[] dry = new int[MOST_FLOWERS];
        final int[] slitPlace = new int[MOST_FLOWERS];
        final int[] slitLength = new int[MOST_FLOWERS];
        final int[] chain = new int[MOST_FLOWERS];
        int chained = 0;

        void restart() {
            minute = 0;
            water = 0;
            picked = 0;
            chained = 0;
            for (int f = 0; f < MOST_FLOWERS; f++) {
                dry[f] = 0;
                slitPlace[f] = 0;
                slitLength[f] = 0;
            }
        }

        void take(Moment other) {
            minute = other.minute;
            water = other.water;
            picked = other.picked;
            chained = other.chained;
            System.arraycopy(other.dry, 0, dry, 0, MOST_FLOWERS);
            System.arraycopy(other.slitPlace, 0, slitPlace, 0, MOST_FLOWERS);
            System.arraycopy(other.slitLength, 0, slitLength, 0, MOST_FLOWERS);
            System.arraycopy(other.chain, 0, chain, 0, MOST_FLOWERS);
        }

        boolean isPicked(int f) {
            return (picked >> f & 1) == 1;
        }

        boolean isSlit(int f) {
            return slitPlace[f] > 0;
        }

        int linkCount() {
            return Math.max(0, chained - 1);
        }

        /** The last FLOWER of THE CHAIN; to be asked only if there is one. */
        int lastOne() {
            return chain[linkCount()];
        }

        boolean isInChain(int f) {
            return isAmong(f, chained);
        }

        boolean isLink(int f) {
            return isAmong(f, linkCount());
        }

        private boolean isAmong(int f, int first) {
            for (int k = 0; k < first; k++) {
                if (chain[k] == f) {
                    return true;
                }
            }
            return false;
        }
    }

    /** A pull that was SEEN, with all that is needed to try it by another WILT. */
    private static final class Sight {
        int pull = 0;
        boolean tore = false;
        int links = 0;
        final int[] fresh = new int[MOST_FLOWERS];
        final int[] dry = new int[MOST_FLOWERS];

        boolean tearsBy(int wilt) {
            for (int k = 0; k < links; k++) {
                if (strength(fresh[k], wilt, dry[k]) < pull) {
                    return true;
                }
            }
            return false;
        }
    }

    /** THE TEXT, and what it tells when it is read. */
    private static final class Text {
        static final int END = 0, DAISY = 1, WILTS = 2, ENDS_ITEM = 3, NUMBER = 4, OTHER = 5;
        static final int TOO_MUCH = 100;

        final int[] letters = new int[MOST_LETTERS];
        int size = 0;
        final Told draft = new Told();
        int items = 0;
        private boolean wiltIsTold = false;
        private int at = 0;
        private int token = END;
        private int tokenValue = 0;
        /** Where the latest TOKEN begins; THE TEXT's length at its end, so that it is FAULT at once. */
        int tokenPlace = 0;

        /** Whether THE TEXT is without FAULT; if not, tokenPlace is where. */
        boolean reads() {
            draft.restart();
            items = 0;
            wiltIsTold = false;
            at = 0;
            for (int i = 0; i <= MOST_LETTERS; i++) {
                nextToken();
                if (token == END) {
                    return true;
                }
                if (!readsItem()) {
                    return false;
                }
                items++;
            }
            return false;
        }

        private boolean readsItem() {
            if (token == DAISY) {
                return readsFlower();
            }
            return token == WILTS && readsWilt();
        }

        private boolean readsFlower() {
            int f = draft.flowers;
            if (f >= MOST_FLOWERS || !readsNumber(1, MOST_THICK)) {
                return false;
            }
            draft.thick[f] = tokenValue;
            if (!readsNumber(1, MOST_LONG)) {
                return false;
            }
            draft.stalk[f] = tokenValue;
            if (!readsNumber(1, MOST_PETALS)) {
                return false;
            }
            draft.petals[f] = tokenValue;
            draft.flowers++;
            return readsItemEnd();
        }

        private boolean readsWilt() {
            if (wiltIsTold || !readsNumber(0, MOST_WILT)) {
                return false;
            }
            wiltIsTold = true;
            draft.wilt = tokenValue;
            return readsItemEnd();
        }

        private boolean readsNumber(int least, int most) {
            nextToken();
            return token == NUMBER && isWithin(tokenValue, least, most);
        }

        private boolean readsItemEnd() {
            nextToken();
            return token == ENDS_ITEM;
        }

        private void nextToken() {
            while (at < size && letters[at] == ' ') {
                at++;
            }
            tokenPlace = at;
            if (at >= size) {
                token = END;
                return;
            }
            int letter = letters[at];
            if (isDigit(letter)) {
                nextNumber();
                return;
            }
            at++;
            switch (letter) {
                case 'd': token = DAISY; break;
                case 'w': token = WILTS; break;
                case ';': token = ENDS_ITEM; break;
                default: token = OTHER; break;
            }
        }

        private void nextNumber() {
            boolean startsWith0 = letters[at] == '0';
            tokenValue = 0;
            while (at < size && isDigit(letters[at])) {
                tokenValue = Math.min(TOO_MUCH, tokenValue * 10 + letters[at] - '0');
                at++;
            }
            boolean is0AheadOfOthers = startsWith0 && at - tokenPlace > 1;
            token = is0AheadOfOthers || tokenValue >= TOO_MUCH ? OTHER : NUMBER;
        }

        // Compares by itself: by isWithin, calls from meadow() would go nine deep.
        private static boolean isDigit(int letter) {
            return letter >= '0' && letter <= '9';
        }
    }

    /** All rows of PICKED FLOWERS, by the set of those in a row and by the first of them. */
    private static final class RowSearch {
        /** By a FLOWER and the next one: the PLACE of its BEST SLIT; below 1 if there is none. */
        private final int[] places = new int[MOST_FLOWERS * MOST_FLOWERS];
        /** By a set and its first FLOWER: the most INCHES; 0 if there is no such row. */
        private final int[] inches = new int[ALL_SETS * MOST_FLOWERS];
        private int picked = 0;

        void prepare(Told told, Moment moment, int v) {
            picked = moment.picked;
            for (int f = 0; f < told.flowers; f++) {
                for (int next = 0; next < told.flowers; next++) {
                    places[f * MOST_FLOWERS + next] = bestPlace(told, moment, f, told.thick[next], v);
                }
            }
            // A set's rows go on in smaller sets, which are smaller numbers too.
            for (int set = 0; set < ALL_SETS; set++) {
                for (int first = 0; first < MOST_FLOWERS; first++) {
                    inches[set * MOST_FLOWERS + first] = canBegin(set, first) ? mostFrom(told, set, first) : 0;
                }
            }
        }

        private boolean canBegin(int set, int first) {
            return isIn(set, first) && (set & ~picked) == 0;
        }

        private int mostFrom(Told told, int set, int first) {
            int rest = set & ~(1 << first);
            if (rest == 0) {
                return told.stalk[first];
            }
            int most = 0;
            for (int next = 0; next < MOST_FLOWERS; next++) {
                if (isIn(rest, next)) {
                    most = Math.max(most, inchesWith(first, next, rest));
                }
            }
            return most;
        }

        /** INCHES of a FLOWER and of the best row behind it, of just that set; 0 if there is none. */
        private int inchesWith(int ahead, int first, int set) {
            int place = places[ahead * MOST_FLOWERS + first];
            int behind = inches[set * MOST_FLOWERS + first];
            return place < 1 || behind == 0 ? 0 : place + behind;
        }

        int mostInches() {
            int most = 0;
            for (int i = 0; i < ALL_SETS * MOST_FLOWERS; i++) {
                most = Math.max(most, inches[i]);
            }
            return most;
        }

        int fewestFlowers(int n) {
            int fewest = NONE;
            for (int set = 1; set < ALL_SETS; set++) {
                int size = Integer.bitCount(set);
                if ((fewest == NONE || size < fewest) && reaches(set, n)) {
                    fewest = size;
                }
            }
            return fewest;
        }

        private boolean reaches(int set, int n) {
            for (int first = 0; first < MOST_FLOWERS; first++) {
                if (inches[set * MOST_FLOWERS + first] >= n) {
                    return true;
                }
            }
            return false;
        }

        /** The k-th of the first row of that size and n INCHES at least, which there must be. */
        int flowerOfFirstRow(int n, int size, int k) {
            int ahead = NONE;
            int free = picked;
            int wanted = n;
            for (int i = 0; i <= k; i++) {
                int f = firstThatReaches(ahead, free, size - i, wanted);
                if (f == NONE) {
                    return NONE;
                }
                if (ahead != NONE) {
                    wanted -= places[ahead * MOST_FLOWERS + f];
                }
                free &= ~(1 << f);
                ahead = f;
            }
            return ahead;
        }

        private int firstThatReaches(int ahead, int free, int size, int wanted) {
            for (int f = 0; f < MOST_FLOWERS; f++) {
                int most = isIn(free, f) ? mostOfSize(ahead, f, free, size) : 0;
                if (most > 0 && most >= wanted) {
                    return f;
                }
            }
            return NONE;
        }

        /** The most INCHES of a row of that size, counted from the FLOWER ahead of it if there is one. */
        private int mostOfSize(int ahead, int first, int free, int size) {
            int most = 0;
            for (int set = 1; set < ALL_SETS; set++) {
                if ((set & ~free) == 0 && Integer.bitCount(set) == size) {
                    int reached = ahead == NONE
                        ? inches[set * MOST_FLOWERS + first]
                        : inchesWith(ahead, first, set);
                    most = Math.max(most, reached);
                }
            }
            return most;
        }

        private static boolean isIn(int set, int f) {
            return (set >> f & 1) == 1;
        }
    }
}

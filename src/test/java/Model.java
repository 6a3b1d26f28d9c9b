import java.math.BigInteger;
import java.util.ArrayDeque;
import java.util.ArrayList;
import java.util.Deque;
import java.util.List;
import java.util.TreeMap;
import java.util.regex.Matcher;
import java.util.regex.Pattern;

/** The document told a second time, as slow and plain as can be, to be held against DaisyChain. */
final class Model {
    private static final int BAD = -1, STATE = -2, FULL = -3, NONE = -9, NO = -1000000;
    private static final Pattern TOKEN = Pattern.compile("[0-9]+|[^ ]", Pattern.DOTALL);

    private record Daisy(int thick, int stalk, int petals) {
    }

    private record Slit(int place, int length) {
    }

    private record Pull(int v, boolean tore, Now then) {
    }

    private record Row(List<Integer> flowers, int inches) {
    }

    /** THE MINUTE, WATER, what is PICKED with its DRY, SLITS, THE CHAIN; never changed once it is remembered. */
    private static final class Now {
        int minute = 0;
        boolean water = false;
        final TreeMap<Integer, Integer> dry = new TreeMap<>();
        final TreeMap<Integer, Slit> slits = new TreeMap<>();
        final ArrayList<Integer> chain = new ArrayList<>();

        Now copy() {
            Now copy = new Now();
            copy.minute = minute;
            copy.water = water;
            copy.dry.putAll(dry);
            copy.slits.putAll(slits);
            copy.chain.addAll(chain);
            return copy;
        }
    }

    private final StringBuilder text = new StringBuilder();
    private List<Daisy> daisies = new ArrayList<>();
    private int wilt = 2;
    private Now now = new Now();
    private final Deque<Now> past = new ArrayDeque<>();
    private Now[] images = new Now[2];
    private final List<Pull> pulls = new ArrayList<>();
    private long trace = 0;

    // ---- the meadow

    int type(int letter) {
        if (letter < 0 || letter > 255) {
            return BAD;
        }
        if (text.length() == 200) {
            return FULL;
        }
        return text.append((char) letter).length();
    }

    int clear() {
        int had = text.length();
        text.setLength(0);
        return had;
    }

    int meadow() {
        List<Daisy> read = new ArrayList<>();
        int readWilt = -1;
        int items = 0;
        // what the ITEM has so far: its letter, then its NUMBERS
        List<Integer> item = new ArrayList<>();
        Matcher tokens = TOKEN.matcher(text);
        while (tokens.find()) {
            String token = tokens.group();
            boolean fits;
            if (item.isEmpty()) {
                fits = token.equals("d") && read.size() < 7 || token.equals("w") && readWilt < 0;
                item.add((int) token.charAt(0));
            } else if (item.get(0) == 'd' && item.size() < 4) {
                int[] most = {0, 9, 30, 60};
                fits = isNumber(token, 1, most[item.size()]);
                item.add(fits ? Integer.parseInt(token) : 0);
            } else if (item.get(0) == 'w' && item.size() < 2) {
                fits = isNumber(token, 0, 9);
                item.add(fits ? Integer.parseInt(token) : 0);
            } else {
                fits = token.equals(";");
                if (item.get(0) == 'd') {
                    read.add(new Daisy(item.get(1), item.get(2), item.get(3)));
                } else {
                    readWilt = item.get(1);
                }
                items++;
                item.clear();
            }
            if (!fits) {
                return -10 - tokens.start();
            }
        }
        if (!item.isEmpty()) {
            return -10 - text.length();
        }
        daisies = read;
        wilt = readWilt < 0 ? 2 : readWilt;
        now = new Now();
        past.clear();
        images = new Now[2];
        pulls.clear();
        text.setLength(0);
        return items;
    }

    private static boolean isNumber(String token, int least, int most) {
        return token.matches("0|[1-9][0-9]?") && Integer.parseInt(token) >= least && Integer.parseInt(token) <= most;
    }

    int flower(int f, int what) {
        if (isNone(f) || what < 0 || what > 7) {
            return BAD;
        }
        Daisy daisy = daisies.get(f);
        Slit slit = now.slits.get(f);
        int[] all = {
            daisy.thick(), daisy.stalk(), daisy.petals(), now.dry.containsKey(f) ? 1 : 0,
            now.dry.getOrDefault(f, NONE), slit == null ? 0 : slit.place(), slit == null ? 0 : slit.length(),
            slit == null ? NONE : held(now, f, wilt),
        };
        return all[what];
    }

    int link(int k) {
        return k < 0 || k >= now.chain.size() ? BAD : now.chain.get(k);
    }

    int now(int what) {
        if (what < 0 || what > 6) {
            return BAD;
        }
        int picked = 0;
        int can = 0;
        for (int f = 0; f < daisies.size(); f++) {
            picked += now.dry.containsKey(f) ? 1 << f : 0;
            can += canBeThreaded(f) ? 1 << f : 0;
        }
        int[] all = {now.minute, now.water ? 1 : 0, picked, now.chain.size(), inches(), can, past.size()};
        return all[what];
    }

    // ---- what is done

    int picks(int f) {
        if (isNone(f)) {
            return BAD;
        }
        if (now.dry.containsKey(f)) {
            return STATE;
        }
        remember();
        now.dry.put(f, 0);
        return now.dry.size();
    }

    int slits(int f, int place, int length) {
        if (isNone(f) || place < 1 || place > daisies.get(f).stalk() || length < 1 || length > 9) {
            return BAD;
        }
        int at = now.chain.indexOf(f);
        if (!now.dry.containsKey(f) || at >= 0 && at < now.chain.size() - 1) {
            return STATE;
        }
        remember();
        now.slits.put(f, new Slit(place, length));
        return held(now, f, wilt);
    }

    int threads(int f) {
        if (isNone(f)) {
            return BAD;
        }
        if (!canBeThreaded(f)) {
            return STATE;
        }
        remember();
        now.chain.add(f);
        return inches();
    }

    int pulls() {
        if (now.chain.isEmpty()) {
            return STATE;
        }
        remember();
        return now.chain.remove(now.chain.size() - 1);
    }

    int minutes(int n) {
        if (n < 1 || n > 60) {
            return BAD;
        }
        if (now.minute > 600 - n) {
            return STATE;
        }
        remember();
        for (int i = 0; i < n; i++) {
            now.minute++;
            if (!now.water) {
                now.dry.replaceAll((f, dry) -> dry + 1);
            }
        }
        return now.minute;
    }

    int water(int is) {
        if (is != 0 && is != 1) {
            return BAD;
        }
        remember();
        int was = now.water ? 1 : 0;
        now.water = is == 1;
        return was;
    }

    int undo() {
        if (past.isEmpty()) {
            return STATE;
        }
        now = past.removeLast();
        return past.size();
    }

    // ---- what it bears

    int weakest(int what) {
        if (what != 0 && what != 1) {
            return BAD;
        }
        int least = Integer.MAX_VALUE;
        int link = NONE;
        for (int k = 0; k + 1 < now.chain.size(); k++) {
            if (heldBy(k) < least) {
                least = heldBy(k);
                link = k;
            }
        }
        return link == NONE ? NONE : what == 0 ? link : least;
    }

    int hung() {
        for (int k = 0; k + 1 < now.chain.size(); k++) {
            if (heldBy(k) < borne(k, 1)) {
                return k;
            }
        }
        return NONE;
    }

    int inTime(int v) {
        if (v < 1 || v > 99) {
            return BAD;
        }
        Now later = now.copy();
        for (int minute = 0; minute <= 400; minute++) {
            if (tears(later, v, wilt)) {
                return minute;
            }
            later.dry.replaceAll((f, dry) -> dry + 1);
        }
        return NONE;
    }

    int props(int what) {
        if (what != 0 && what != 1) {
            return BAD;
        }
        int size = now.chain.size();
        for (int many = 1; many <= size; many++) {
            for (int set = 0; set < 1 << size; set++) {
                if ((set & 1) == 1 && Integer.bitCount(set) == many && bears(set)) {
                    return what == 0 ? many : set;
                }
            }
        }
        return 0;
    }

    int ring() {
        if (now.chain.size() < 2) {
            return 0;
        }
        return goesThrough(now.chain.get(now.chain.size() - 1), now.chain.get(0)) ? 1 : 0;
    }

    int loves() {
        int love = 0;
        for (int f : now.chain) {
            love ^= daisies.get(f).petals() & 1;
        }
        return love;
    }

    // ---- how to make it

    int bestSlit(int f, int t, int v) {
        if (isNone(f) || t < 1 || t > 9 || v < 0 || v > 99) {
            return BAD;
        }
        return now.dry.containsKey(f) ? bestPlace(f, t, v) : STATE;
    }

    int longest(int v, int what) {
        if (v < 0 || v > 99 || what != 0 && what != 1) {
            return BAD;
        }
        Row best = null;
        for (Row row : rows(v)) {
            if (best == null || row.inches() > best.inches()
                || row.inches() == best.inches() && row.flowers().size() < best.flowers().size()) {
                best = row;
            }
        }
        return best == null ? NONE : what == 0 ? best.inches() : best.flowers().size();
    }

    int fewest(int n, int v) {
        if (n < 1 || n > 300 || v < 0 || v > 99) {
            return BAD;
        }
        Row first = firstRow(n, v);
        return first == null ? NONE : first.flowers().size();
    }

    int row(int n, int v, int k) {
        if (n < 1 || n > 300 || v < 0 || v > 99 || k < 0) {
            return BAD;
        }
        Row first = firstRow(n, v);
        return first == null ? NONE : k < first.flowers().size() ? first.flowers().get(k) : -5;
    }

    // ---- what was seen

    int seen(int v, int tore) {
        if (v < 1 || v > 99 || tore != 0 && tore != 1) {
            return BAD;
        }
        if (pulls.size() == 5) {
            return FULL;
        }
        pulls.add(new Pull(v, tore == 1, now.copy()));
        return pulls.size();
    }

    int forget() {
        int had = pulls.size();
        pulls.clear();
        return had;
    }

    int wilts() {
        int bits = 0;
        for (int wilting = 0; wilting <= 9; wilting++) {
            boolean so = true;
            for (Pull pull : pulls) {
                so = so && tears(pull.then(), pull.v(), wilting) == pull.tore();
            }
            bits += so ? 1 << wilting : 0;
        }
        return bits;
    }

    int odds(int p, int k, int what) {
        if (p < 0 || p > 10 || k < 0 || k > 7 || what != 0 && what != 1) {
            return BAD;
        }
        int links = Math.max(0, now.chain.size() - 1);
        BigInteger upper = BigInteger.ZERO;
        for (int slipped = 0; slipped < 1 << links; slipped++) {
            int many = Integer.bitCount(slipped);
            if (many <= k) {
                upper = upper.add(BigInteger.valueOf(p).pow(many).multiply(BigInteger.valueOf(10 - p).pow(links - many)));
            }
        }
        BigInteger lower = BigInteger.TEN.pow(links);
        BigInteger common = upper.gcd(lower);
        return (what == 0 ? upper : lower).divide(common).intValueExact();
    }

    // ---- kinds, images

    int rate(int kind, int f) {
        if (kind < 0 || kind > 5 || isNone(f)) {
            return NO;
        }
        Daisy daisy = daisies.get(f);
        long[] added = {1, 11, 101, 1011, 10101, 100001};
        trace += added[kind];
        int dry = now.dry.getOrDefault(f, 0);
        int[] rates = {
            daisy.thick(), daisy.thick() + daisy.stalk(), daisy.thick() - dry,
            2 * (daisy.thick() + daisy.stalk()), daisy.thick() - dry + f, daisy.thick() + daisy.petals(),
        };
        return rates[kind];
    }

    int keep(int image) {
        if (image != 0 && image != 1) {
            return BAD;
        }
        images[image] = now.copy();
        return now.minute;
    }

    int back(int image) {
        if (image != 0 && image != 1) {
            return BAD;
        }
        if (images[image] == null) {
            return STATE;
        }
        now = images[image].copy();
        past.clear();
        return now.minute;
    }

    int count(int what) {
        int[] all = {daisies.size(), wilt, pulls.size(), text.length()};
        return what < 0 || what > 3 ? BAD : all[what];
    }

    long trace() {
        return trace;
    }

    // ---- terms

    private boolean isNone(int f) {
        return f < 0 || f >= daisies.size();
    }

    private void remember() {
        past.addLast(now.copy());
        if (past.size() > 10) {
            past.removeFirst();
        }
    }

    private boolean isOpen(int f, Slit slit) {
        return slit.place() + slit.length() > daisies.get(f).stalk();
    }

    private int held(int f, Slit slit, int dry, int wilting) {
        if (isOpen(f, slit)) {
            return 0;
        }
        int holds = 10 * daisies.get(f).thick() - 3 * slit.length() - slit.place() - (wilting * dry) / 10;
        return holds < 0 ? 0 : holds;
    }

    private int held(Now then, int f, int wilting) {
        return held(f, then.slits.get(f), then.dry.get(f), wilting);
    }

    private int heldBy(int k) {
        return held(now, now.chain.get(k), wilt);
    }

    private boolean goesThrough(int slit, int stalk) {
        Slit through = now.slits.get(slit);
        return through != null && !isOpen(slit, through) && through.length() >= daisies.get(stalk).thick();
    }

    private boolean canBeThreaded(int f) {
        if (!now.dry.containsKey(f) || now.chain.contains(f)) {
            return false;
        }
        return now.chain.isEmpty() || goesThrough(now.chain.get(now.chain.size() - 1), f);
    }

    private int inches() {
        int inches = 0;
        for (int k = 0; k < now.chain.size(); k++) {
            int f = now.chain.get(k);
            inches += k + 1 < now.chain.size() ? now.slits.get(f).place() : daisies.get(f).stalk();
        }
        return inches;
    }

    private boolean tears(Now then, int v, int wilting) {
        for (int k = 0; k + 1 < then.chain.size(); k++) {
            if (held(then, then.chain.get(k), wilting) < v) {
                return true;
            }
        }
        return false;
    }

    /** What the k-th bears up to the next one that is hung. */
    private int borne(int k, int hung) {
        int borne = 0;
        for (int behind = k + 1; behind < now.chain.size() && (hung >> behind & 1) == 0; behind++) {
            borne += daisies.get(now.chain.get(behind)).thick();
        }
        return borne;
    }

    private boolean bears(int hung) {
        for (int k = 0; k + 1 < now.chain.size(); k++) {
            if (borne(k, hung) > heldBy(k)) {
                return false;
            }
        }
        return true;
    }

    private int bestPlace(int f, int t, int v) {
        for (int place = daisies.get(f).stalk(); place >= 1; place--) {
            Slit slit = new Slit(place, t);
            if (!isOpen(f, slit) && held(f, slit, now.dry.get(f), wilt) >= v) {
                return place;
            }
        }
        return NONE;
    }

    /** All rows, each ahead of those that are behind it by the first one, the second, .. */
    private List<Row> rows(int v) {
        List<Row> rows = new ArrayList<>();
        addRows(rows, new ArrayList<>(), 0, v);
        return rows;
    }

    private void addRows(List<Row> rows, List<Integer> ahead, int places, int v) {
        for (int f : now.dry.keySet()) {
            if (ahead.contains(f)) {
                continue;
            }
            int place = 0;
            if (!ahead.isEmpty()) {
                place = bestPlace(ahead.get(ahead.size() - 1), daisies.get(f).thick(), v);
            }
            if (place == NONE) {
                continue;
            }
            List<Integer> flowers = new ArrayList<>(ahead);
            flowers.add(f);
            rows.add(new Row(flowers, places + place + daisies.get(f).stalk()));
            addRows(rows, flowers, places + place, v);
        }
    }

    private Row firstRow(int n, int v) {
        Row first = null;
        for (Row row : rows(v)) {
            if (row.inches() >= n && (first == null || row.flowers().size() < first.flowers().size())) {
                first = row;
            }
        }
        return first;
    }
}

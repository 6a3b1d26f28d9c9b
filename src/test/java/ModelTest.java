import java.util.Random;

/** Long runs of calls, the same every time, whose answers must be those of the Model. */
public final class ModelTest {
    private static final int RUNS = 400;
    private static final int CALLS = 512;
    private static final int ASKED_AT_THE_END = 7;
    private static final String[] CALLED = {
        "type", "clear", "meadow", "flower", "link", "now", "picks", "slits", "threads", "pulls", "minutes", "water",
        "undo", "weakest", "hung", "inTime", "props", "ring", "loves", "bestSlit", "longest", "fewest", "row", "seen",
        "forget", "wilts", "odds", "rate", "keep", "back", "count", "trace",
    };
    // how often each is called: what makes chains more than what takes them down
    private static final int[] OFTEN = {
        2, 1, 1, 12, 4, 14, 14, 40, 40, 4, 10, 3,
        6, 8, 6, 8, 8, 6, 3, 10, 6, 6, 10, 6,
        1, 6, 8, 6, 2, 2, 4, 2,
    };
    // {least, most} of each number that a call may be given
    private static final int[] FLOWER = {0, 6}, HOLD = {0, 99}, PULL = {1, 99}, EITHER = {0, 1};

    private final Random random;
    private final int run;
    private final DaisyChain chain = new DaisyChain();
    private final Model model = new Model();
    private int calls = 0;

    private ModelTest(int run) {
        this.run = run;
        random = new Random(7919L * run + 1);
    }

    public static void main(String[] args) {
        for (int run = 1; run <= RUNS; run++) {
            ModelTest test = new ModelTest(run);
            if (run % 4 == 0) {
                test.readsTexts();
            } else {
                test.usesMeadows();
            }
        }
        Check.end();
    }

    private void due(String call, long got, long want) {
        calls++;
        Check.due("run " + run + ", call " + calls + ", " + call, got, want);
    }

    // ---- runs of texts

    private void readsTexts() {
        while (calls < CALLS - 210) {
            tells(random.nextInt(3) == 0 ? noise() : spoilt(meadow(true)));
            if (random.nextInt(3) != 0) {
                due("clear()", chain.clear(), model.clear());
            }
        }
    }

    private void tells(String text) {
        for (int i = 0; i < text.length(); i++) {
            int letter = text.charAt(i);
            due("type(" + letter + ")", chain.type(letter), model.type(letter));
        }
        due("meadow() of '" + text + "'", chain.meadow(), model.meadow());
        for (int what = 0; what < 4; what++) {
            due("count(" + what + ")", chain.count(what), model.count(what));
        }
    }

    private String meadow(boolean odd) {
        StringBuilder text = new StringBuilder();
        int flowers = odd ? random.nextInt(9) : 7 - random.nextInt(4) * random.nextInt(2);
        int wilt = random.nextInt(flowers + 1);
        for (int f = 0; f < flowers; f++) {
            if (f == wilt) {
                text.append("w").append(random.nextInt(odd ? 11 : 10)).append(";");
            }
            text.append(odd && random.nextInt(4) == 0 ? " d " : "d").append(1 + random.nextInt(odd ? 9 : 5 + random.nextInt(5)));
            text.append(" ").append(1 + random.nextInt(30)).append(" ").append(1 + random.nextInt(60)).append(";");
        }
        return text.toString();
    }

    private String spoilt(String text) {
        StringBuilder spoilt = new StringBuilder(text);
        int times = random.nextInt(3);
        for (int i = 0; i < times && spoilt.length() > 0; i++) {
            int at = random.nextInt(spoilt.length());
            switch (random.nextInt(3)) {
                case 0: spoilt.deleteCharAt(at); break;
                case 1: spoilt.insert(at, letter()); break;
                default: spoilt.setLength(at); break;
            }
        }
        return spoilt.toString();
    }

    private char letter() {
        String letters = "dw; 0123456789 ;d0w";
        return random.nextInt(12) == 0 ? (char) random.nextInt(256) : letters.charAt(random.nextInt(letters.length()));
    }

    private String noise() {
        StringBuilder noise = new StringBuilder();
        int length = random.nextInt(12);
        for (int i = 0; i < length; i++) {
            noise.append(letter());
        }
        return noise.toString();
    }

    // ---- runs of all calls

    private void usesMeadows() {
        tells(meadow(false));
        int flowers = model.count(0);
        for (int f = 0; f < flowers; f++) {
            if (random.nextInt(5) != 0) {
                due("picks(" + f + ")", chain.picks(f), model.picks(f));
            }
        }
        while (calls < CALLS - ASKED_AT_THE_END) {
            String name = CALLED[drawn()];
            // told anew too often, nothing would ever be threaded
            if (name.equals("meadow") && random.nextInt(4) == 0) {
                if (calls < CALLS - 100) {
                    tells(meadow(false));
                }
            } else if (!name.equals("meadow")) {
                calls(name);
            }
        }
        for (int what = 0; what < ASKED_AT_THE_END; what++) {
            due("now(" + what + ")", chain.now(what), model.now(what));
        }
    }

    private int drawn() {
        int sum = 0;
        for (int often : OFTEN) {
            sum += often;
        }
        int left = random.nextInt(sum);
        int drawn = 0;
        while (left >= OFTEN[drawn]) {
            left -= OFTEN[drawn];
            drawn++;
        }
        return drawn;
    }

    /** Mostly a number that is as told, sometimes one beside it or far off. */
    private int number(int least, int most) {
        switch (random.nextInt(40)) {
            case 0: return least - 1;
            case 1: return most + 1;
            case 2: return random.nextInt();
            case 3: return least;
            case 4: return most;
            default: return least + random.nextInt(most - least + 1);
        }
    }

    private int number(int[] range) {
        return number(range[0], range[1]);
    }

    private void calls(String name) {
        int f = number(FLOWER);
        int either = number(EITHER);
        int hold = random.nextBoolean() ? number(0, 30) : number(HOLD);
        switch (name) {
            case "clear": due("clear()", chain.clear(), model.clear()); break;
            case "link": one(name, number(FLOWER)); break;
            case "now": one(name, number(0, 6)); break;
            case "type": one(name, number(0, 255)); break;
            case "count": one(name, number(0, 3)); break;
            case "picks": case "threads": one(name, f); break;
            case "minutes": one(name, random.nextInt(3) == 0 ? number(1, 60) : number(1, 8)); break;
            case "water": case "weakest": case "props": case "keep": case "back": one(name, either); break;
            case "inTime": one(name, random.nextBoolean() ? number(1, 20) : number(PULL)); break;
            case "flower": two(name, f, number(0, 7)); break;
            case "rate": two(name, number(0, 5), f); break;
            case "longest": two(name, hold, either); break;
            case "seen": two(name, random.nextBoolean() ? number(1, 20) : number(PULL), either); break;
            case "fewest": two(name, random.nextBoolean() ? number(1, 300) : number(1, 90), hold); break;
            case "slits": slits(f); break;
            case "bestSlit": three(name, f, number(1, 9), hold); break;
            case "row": three(name, random.nextBoolean() ? number(1, 150) : number(1, 70), hold, number(0, 7)); break;
            case "odds": three(name, number(0, 10), number(0, 7), either); break;
            default: none(name); break;
        }
    }

    /** Mostly slits that let another stalk through, so that there are chains. */
    private void slits(int f) {
        int most = Math.max(2, model.flower(f, 1));
        int length = number(random.nextBoolean() ? 4 : 1, 9);
        three("slits", f, random.nextInt(3) == 0 ? number(1, most) : number(1, Math.max(1, most - 6)), length);
    }

    private void none(String name) {
        switch (name) {
            case "pulls": due("pulls()", chain.pulls(), model.pulls()); break;
            case "undo": due("undo()", chain.undo(), model.undo()); break;
            case "hung": due("hung()", chain.hung(), model.hung()); break;
            case "ring": due("ring()", chain.ring(), model.ring()); break;
            case "loves": due("loves()", chain.loves(), model.loves()); break;
            case "forget": due("forget()", chain.forget(), model.forget()); break;
            case "wilts": due("wilts()", chain.wilts(), model.wilts()); break;
            case "trace": due("trace()", chain.trace(), model.trace()); break;
            default: throw new IllegalArgumentException(name);
        }
    }

    private void one(String name, int a) {
        String call = name + "(" + a + ")";
        switch (name) {
            case "type": due(call, chain.type(a), model.type(a)); break;
            case "link": due(call, chain.link(a), model.link(a)); break;
            case "now": due(call, chain.now(a), model.now(a)); break;
            case "count": due(call, chain.count(a), model.count(a)); break;
            case "picks": due(call, chain.picks(a), model.picks(a)); break;
            case "threads": due(call, chain.threads(a), model.threads(a)); break;
            case "minutes": due(call, chain.minutes(a), model.minutes(a)); break;
            case "water": due(call, chain.water(a), model.water(a)); break;
            case "weakest": due(call, chain.weakest(a), model.weakest(a)); break;
            case "inTime": due(call, chain.inTime(a), model.inTime(a)); break;
            case "props": due(call, chain.props(a), model.props(a)); break;
            case "keep": due(call, chain.keep(a), model.keep(a)); break;
            case "back": due(call, chain.back(a), model.back(a)); break;
            default: throw new IllegalArgumentException(name);
        }
    }

    private void two(String name, int a, int b) {
        String call = name + "(" + a + ", " + b + ")";
        switch (name) {
            case "flower": due(call, chain.flower(a, b), model.flower(a, b)); break;
            case "rate": due(call, chain.rate(a, b), model.rate(a, b)); break;
            case "longest": due(call, chain.longest(a, b), model.longest(a, b)); break;
            case "seen": due(call, chain.seen(a, b), model.seen(a, b)); break;
            case "fewest": due(call, chain.fewest(a, b), model.fewest(a, b)); break;
            default: throw new IllegalArgumentException(name);
        }
    }

    private void three(String name, int a, int b, int c) {
        String call = name + "(" + a + ", " + b + ", " + c + ")";
        switch (name) {
            case "slits": due(call, chain.slits(a, b, c), model.slits(a, b, c)); break;
            case "bestSlit": due(call, chain.bestSlit(a, b, c), model.bestSlit(a, b, c)); break;
            case "row": due(call, chain.row(a, b, c), model.row(a, b, c)); break;
            case "odds": due(call, chain.odds(a, b, c), model.odds(a, b, c)); break;
            default: throw new IllegalArgumentException(name);
        }
    }
}

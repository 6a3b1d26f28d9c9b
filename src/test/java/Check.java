/** What all tests of the project share: they print each answer that is not due, and end with 1 if there was one. */
final class Check {
    private static int asked = 0;
    private static int wrong = 0;

    private Check() {
    }

    static void due(String what, long got, long want) {
        asked++;
        if (got != want) {
            wrong++;
            System.out.println(what + ": answered " + got + ", due is " + want);
        }
    }

    static void holds(String what, boolean is) {
        due(what, is ? 1 : 0, 1);
    }

    static void type(DaisyChain chain, String text) {
        for (int i = 0; i < text.length(); i++) {
            chain.type(text.charAt(i));
        }
    }

    /** What meadow() answers to a text. */
    static int tell(DaisyChain chain, String text) {
        chain.clear();
        type(chain, text);
        return chain.meadow();
    }

    static DaisyChain told(String text) {
        DaisyChain chain = new DaisyChain();
        holds("no fault in '" + text + "'", tell(chain, text) >= 0);
        return chain;
    }

    /** A meadow with its first FLOWERS PICKED, in order. */
    static DaisyChain picked(String text, int flowers) {
        DaisyChain chain = told(text);
        for (int f = 0; f < flowers; f++) {
            due("picks(" + f + ")", chain.picks(f), f + 1);
        }
        return chain;
    }

    static void end() {
        System.out.println(asked + " answers, " + wrong + " of them not as due");
        if (wrong != 0) {
            System.exit(1);
        }
    }
}

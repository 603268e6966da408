/** Compares answers with those that are due, and ends a test. */
final class Check {
    private static int wrong = 0;
    private static long looked = 0;

    private Check() {
    }

    static void due(String call, long got, long want) {
        looked++;
        if (got != want) {
            wrong++;
            if (wrong <= 50) {
                System.out.println(call + " answered " + got + ", due is " + want);
            }
        }
    }

    static void holds(String what, boolean truth) {
        due(what, truth ? 1 : 0, 1);
    }

    static int wrongSoFar() {
        return wrong;
    }

    static void end() {
        System.out.println(wrong == 0 ? looked + " answers, all as due" : wrong + " answers are not as due");
        if (wrong != 0) {
            System.exit(1);
        }
    }

    /** Feeds a text and reads it. */
    static int tell(RutWays x, String text) {
        feedText(x, text);
        return x.land(text.length());
    }

    static void feedText(RutWays x, String text) {
        for (int i = 0; i < text.length(); i += 20) {
            x.feed(wordAt(text, i), wordAt(text, i + 4), wordAt(text, i + 8), wordAt(text, i + 12), wordAt(text, i + 16));
        }
    }

    static int wordAt(String text, int i) {
        int word = 0;
        for (int k = i; k < i + 4; k++) {
            word = word << 8 | (k < text.length() ? text.charAt(k) & 255 : 32);
        }
        return word;
    }
}

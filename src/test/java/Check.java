/** What the tests share: an answer against the one that is due, and texts put on the tape. */
final class Check {
    private static int wrong = 0;
    private static int looked = 0;
    private static String sentence = "";

    private Check() {
    }

    /** The sentence of the document that is looked at from here on: told with each wrong answer. */
    static void about(String quoted) {
        sentence = "[" + quoted + "] ";
    }

    static void due(String what, long got, long want) {
        looked++;
        if (got != want) {
            wrong++;
            System.out.println(sentence + what + " answered " + got + ", due is " + want);
        }
    }

    static void due(String what, boolean got, boolean want) {
        due(what, got ? 1 : 0, want ? 1 : 0);
    }

    /** A fraction: the upper number, then the lower one. */
    static void due(String what, long up, long low, long wantUp, long wantLow) {
        due(what + " (upper)", up, wantUp);
        due(what + " (lower)", low, wantLow);
    }

    static int wrongSoFar() {
        return wrong;
    }

    static void finish() {
        System.out.println(wrong == 0 ? looked + " answers are as due" : wrong + " answers are not as due");
        if (wrong != 0) {
            System.exit(1);
        }
    }

    /** Puts a text on the tape; false: it did not come whole. */
    static boolean put(LiabilityMatcher x, String text) {
        int start = x.count(2);
        int[] n = new int[5];
        for (int from = 0; from < text.length(); from += 20) {
            for (int i = 0; i < 5; i++) {
                n[i] = 0;
                for (int j = 0; j < 4; j++) {
                    int place = from + 4 * i + j;
                    n[i] = n[i] << 8 | (place < text.length() ? text.charAt(place) & 255 : 0);
                }
            }
            if (x.feed(n[0], n[1], n[2], n[3], n[4]) == LiabilityMatcher.NONE) {
                return false;
            }
        }
        return x.end(start + text.length());
    }

    static int tell(LiabilityMatcher x, String text) {
        if (!put(x, text)) {
            return -9;
        }
        return x.tell();
    }
}

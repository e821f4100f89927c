import java.util.Locale;

/** What the project's tests share: counting answers that are not due, and feeding a text. */
final class Check {
    private static int wrong = 0;
    private static int asked = 0;

    private Check() {
    }

    static void due(String call, long got, long want) {
        asked++;
        if (got != want) {
            wrong++;
            System.out.println(call + " answered " + got + ", due is " + want);
        }
    }

    static void due(String call, boolean got, boolean want) {
        due(call, got ? 1L : 0L, want ? 1L : 0L);
    }

    /** Feeds the text, filled up with blanks to a multiple of 20 bytes, onto an empty tape; how many bytes it has. */
    static int feed(GiantHeart x, String text) {
        int[] word = new int[5];
        for (int from = 0; from < text.length(); from += 20) {
            for (int w = 0; w < 5; w++) {
                word[w] = 0;
                for (int b = 0; b < 4; b++) {
                    int i = from + 4 * w + b;
                    word[w] = word[w] << 8 | (i < text.length() ? text.charAt(i) & 255 : ' ');
                }
            }
            x.feed(word[0], word[1], word[2], word[3], word[4]);
        }
        return text.length();
    }

    static int law(GiantHeart x, String text) {
        return x.law(feed(x, text));
    }

    static int tale(GiantHeart x, String text, int what) {
        return x.tale(feed(x, text), what);
    }

    static long story(GiantHeart x, String text, int places, int what) {
        return x.story(feed(x, text), places, what);
    }

    static long toDust(GiantHeart x, String text, int places, int what) {
        return x.toDust(feed(x, text), places, what);
    }

    static long lots(GiantHeart x, int what, int... worths) {
        StringBuilder text = new StringBuilder();
        for (int worth : worths) {
            text.append((char) worth);
        }
        return x.lots(feed(x, text.toString()), what);
    }

    /** The last word of a test's main method. */
    static void end(String name) {
        System.out.println(String.format(Locale.ROOT, "%s: %d answers, %d not as due", name, asked, wrong));
        if (wrong != 0 || asked == 0) {
            System.exit(1);
        }
    }
}

/** What the tests share: counting wrong answers, and writing texts. */
final class Checks {
    private int wrong = 0;
    private int asked = 0;
    private String sentence = "";

    /** The words of the document that the answers from here on are asked for. */
    void sentence(String words) {
        sentence = "'" + words + "': ";
    }

    void due(String call, int got, int want) {
        asked++;
        if (got != want) {
            wrong++;
            System.out.println(sentence + call + " answered " + got + ", due is " + want);
        }
    }

    void dueNow(OnChin c, int x, int v, int f, int ticks, int m) {
        due("now X", c.now(0) - 1000000, x);
        due("now V", c.now(1) - 1000000, v);
        due("now F", c.now(2) - 1000, f);
        due("now TICKS", c.now(3), ticks);
        due("now M", c.now(4) - 1000, m);
    }

    boolean isClean() {
        return wrong == 0;
    }

    void end() {
        System.out.println(asked + " answers, " + wrong + " not as due");
        if (wrong != 0) {
            System.exit(1);
        }
    }

    /** The bytes of up to eight characters, as write takes them. */
    static long packed(String text, int from, int n) {
        long bytes = 0;
        for (int i = 0; i < n; i++) {
            bytes |= (long) (text.charAt(from + i) & 255) << 8 * i;
        }
        return bytes;
    }

    static void put(OnChin chin, String text) {
        for (int from = 0; from < text.length(); from += 8) {
            int n = Math.min(8, text.length() - from);
            chin.write(packed(text, from, n), n);
        }
    }

    /** Puts and does a text; its answer is chin's. */
    static int tell(OnChin chin, String text) {
        put(chin, text);
        return chin.chin();
    }

    static OnChin told(String text) {
        OnChin chin = new OnChin();
        if (tell(chin, text) < 0) {
            throw new IllegalArgumentException(text);
        }
        return chin;
    }
}

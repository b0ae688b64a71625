import java.util.NoSuchElementException;

/** What the tests share: answers held against those that are due, texts laid on a tape. */
final class Check {
    static final int THROWN = Integer.MIN_VALUE;
    private static int wrong = 0;
    private static int asked = 0;

    private Check() {
    }

    static void due(String call, long got, long want) {
        asked++;
        if (got != want) {
            wrong++;
            System.out.println(call + " answered " + got + ", due is " + want);
        }
    }

    static void due(String call, boolean got, boolean want) {
        due(call, got ? 1 : 0, want ? 1 : 0);
    }

    static int feed(CoalHoles x, String text) {
        int signs = x.feed(0, 0, 0);
        for (int i = 0; i < text.length(); i += 24) {
            signs = x.feed(bytes(text, i), bytes(text, i + 8), bytes(text, i + 16));
        }
        return signs;
    }

    static long bytes(String text, int from) {
        long bytes = 0;
        for (int i = from; i < from + 8; i++) {
            bytes = bytes << 8 | (i < text.length() ? text.charAt(i) & 255 : 0);
        }
        return bytes;
    }

    static int terrace(CoalHoles x, String text) {
        feed(x, text);
        return x.terrace();
    }

    static int winter(CoalHoles x, String text) {
        feed(x, text);
        return x.winter();
    }

    static CoalHoles onTerrace(String text) {
        CoalHoles x = new CoalHoles();
        due("terrace() of " + text, terrace(x, text), 0);
        return x;
    }

    static int rests(CoalHoles x, int both, int loses, int gets, int what) {
        try {
            return x.rests(both, loses, gets, what);
        } catch (NoSuchElementException e) {
            return THROWN;
        }
    }

    static int fault(int kind, int place) {
        return kind + 16 * place;
    }

    static void end() {
        System.out.println(wrong == 0 ? asked + " answers are as due" : wrong + " answers are not as due");
        if (wrong != 0) {
            System.exit(1);
        }
    }
}

import java.util.Arrays;
import java.util.NoSuchElementException;
import java.util.function.IntUnaryOperator;

/** What the tests share: answers held against those that are due, texts laid on a tape. */
final class Check {
    static final int THROWN = Integer.MIN_VALUE;
    private static int wrong = 0;
    private static int asked = 0;
    private static String standsFor = "";

    private Check() {
    }

    /** The promise or term, and its sentence, that the answers asked behind this are held against. */
    static void sentence(String where, String words) {
        standsFor = "[" + where + ": " + words + "] ";
    }

    static void due(String call, long got, long want) {
        asked++;
        if (got != want) {
            wrong++;
            System.out.println(standsFor + call + " answered " + got + ", due is " + want);
        }
    }

    static void due(String call, boolean got, boolean want) {
        due(call, got ? 1 : 0, want ? 1 : 0);
    }

    /** The answers at an edge and beside it, one behind another. */
    static void dueAt(String call, int[] at, IntUnaryOperator answer, int... want) {
        if (at.length != want.length) {
            throw new IllegalArgumentException(call + ": " + Arrays.toString(at) + ", " + Arrays.toString(want));
        }
        for (int i = 0; i < at.length; i++) {
            due(call + " at " + at[i], answer.applyAsInt(at[i]), want[i]);
        }
    }

    static int[] at(int... values) {
        return values;
    }

    static int feed(CoalHoles x, String text) {
        int signs = x.feed(0, 0, 0);
        for (int i = 0; i < text.length(); i += 24) {
            signs = x.feed(bytes(text, i), bytes(text, i + 8), bytes(text, i + 16));
        }
        return signs;
    }

    static long bytes(String text, int from) {
        long bytes = 0;
        for (int i = from; i < from + 8; i++) {
            bytes = bytes << 8 | (i < text.length() ? text.charAt(i) & 255 : 0);
        }
        return bytes;
    }

    static int terrace(CoalHoles x, String text) {
        feed(x, text);
        return x.terrace();
    }

    static int winter(CoalHoles x, String text) {
        feed(x, text);
        return x.winter();
    }

    static CoalHoles onTerrace(String text) {
        CoalHoles x = new CoalHoles();
        due("terrace() of " + text, terrace(x, text), 0);
        return x;
    }

    /** A new object reads the text as a terrace, without a fault. */
    static void told(String text) {
        onTerrace(text);
    }

    /** A new object reads the three as one text, and the token in the middle is the first wrong one. */
    static void fault(int kind, String ahead, String token, String behind) {
        String text = ahead + token + behind;
        due("terrace() of " + text, terrace(new CoalHoles(), text), fault(kind, ahead.length()));
    }

    /** How many are seized then, and where each of all guests goes; there is none behind them. */
    static void lodgings(CoalHoles x, int days, int... want) {
        for (int guest = -1; guest < want.length - 1; guest++) {
            due("lodging(" + days + ", " + guest + ")", x.lodging(days, guest), want[guest + 1]);
        }
        due("lodging(" + days + ", " + (want.length - 1) + ")", x.lodging(days, want.length - 1), -2);
    }

    static int rests(CoalHoles x, int both, int loses, int gets, int what) {
        try {
            return x.rests(both, loses, gets, what);
        } catch (NoSuchElementException e) {
            return THROWN;
        }
    }

    static int fault(int kind, int place) {
        return kind + 16 * place;
    }

    static int bit(boolean is) {
        return is ? 1 : 0;
    }

    static void days(CoalHoles x, int many) {
        for (int i = 0; i < many; i++) {
            x.day();
        }
    }

    static void end() {
        System.out.println(wrong == 0 ? asked + " answers are as due" : wrong + " answers are not as due");
        if (wrong != 0) {
            System.exit(1);
        }
    }
}

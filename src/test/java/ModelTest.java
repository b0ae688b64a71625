import java.util.NoSuchElementException;
import java.util.Random;

/** Long runs of drawn calls: the class answers as the slow model does. Promises 1 to 30. */
public final class ModelTest {
    private static final String[] KINDS = {"plain", "wanted", "envoy", "cat"};
    private static final String[] STRAY = {"hole", "flag", "coal", "burns", "wall", "guest", "war", "cold", "sack",
        "takes", "down", "up", "through", "bring", "day", "plain", "wanted", "envoy", "cat", "not", "and", "or",
        "left", "inside", "same", "date", "(", ")", "<", "=", "+", "-", "*", ";", "0", "1", "10", "61", "9999",
        "12345", "abcdefgh", "abcdefghi", "A", "/", ",", "h0", "ha", "hb", "ga", "gb", "", "\n"};

    private final Random random;
    private final CoalHoles real = new CoalHoles();
    private final Model model = new Model();
    private int holes;
    private int guests;
    private int calls;

    private ModelTest(long seed) {
        random = new Random(seed);
    }

    public static void main(String[] args) {
        int runs = args.length > 0 ? Integer.parseInt(args[0]) : 250;
        int from = args.length > 1 ? Integer.parseInt(args[1]) : 0;
        for (int i = from; i < from + runs; i++) {
            new ModelTest(i).run(i);
        }
        Check.end();
    }

    private void run(int seed) {
        // The document promises 512 calls of an object; the last text that is told takes some calls of feed.
        for (int i = 0; i < 300 && calls < 512 - 80; i++) {
            String call = step(i);
            calls++;
            if (call != null) {
                Check.due("run " + seed + ", call " + i + ", " + call, got, want);
                if (got != want) {
                    return;
                }
            }
        }
    }

    private long got;
    private long want;

    private int below(int n) {
        return random.nextInt(n);
    }

    private int index(int many) {
        return below(20) == 0 ? new int[] {-1, -2, many, 5, Integer.MAX_VALUE, Integer.MIN_VALUE}[below(6)]
            : many == 0 ? 0 : below(many);
    }

    private int days(int most) {
        return below(20) == 0 ? new int[] {0, -1, most + 1, most, Integer.MIN_VALUE, Integer.MAX_VALUE}[below(6)]
            : below(3) == 0 ? 1 + below(most) : 1 + below(Math.min(most, 8));
    }

    private int what(int from, int to) {
        return from - 1 + below(to - from + 3);
    }

    private String step(int i) {
        if (i == 0 || below(60) == 0) {
            return tell(terraceText(), true);
        }
        if (below(20) == 0) {
            return tell(winterText(), false);
        }
        int a = index(guests);
        int b = index(holes);
        switch (below(28)) {
            case 0: case 1: case 2: case 3:
                return both("down " + a + " " + b, real.down(a, b), model.down(a, b));
            case 4:
                return both("up " + a, real.up(a), model.up(a));
            case 5: case 6:
                return both("through " + a + " " + b, real.through(a, b), model.through(a, b));
            case 7: case 8:
                return both("bring " + b, real.bring(b), model.bring(b));
            case 9: case 10:
                return both("day", real.day(), model.day());
            case 11:
                return both("undo", real.undo(), model.undo());
            default:
                return question(a, b);
        }
    }

    private String question(int a, int b) {
        int w;
        int d;
        switch (below(23)) {
            case 0: case 1:
                w = what(0, 5);
                return both("hole " + b + " " + w, real.hole(b, w), model.hole(b, w));
            case 2: case 3:
                w = what(0, 4);
                return both("guest " + a + " " + w, real.guest(a, w), model.guest(a, w));
            case 4: case 20:
                w = what(0, 2);
                return both("judged " + w, real.judged(w), model.judged(w));
            case 5:
                return both("lasts " + b, real.lasts(b), model.lasts(b));
            case 6:
                return both("safe " + a, real.safe(a), model.safe(a));
            case 7:
                return both("refuge " + a, real.refuge(a), model.refuge(a));
            case 8:
                w = what(-1, holes - 1);
                d = days(30);
                return both("sacks " + d + " " + w, real.sacks(d, w), model.sacks(d, w));
            case 9:
                w = what(-1, guests - 1);
                d = days(30);
                return both("lodging " + d + " " + w, real.lodging(d, w), model.lodging(d, w));
            case 10:
                w = index(holes);
                return both("note " + w + " " + b, real.note(w, b), model.note(w, b));
            case 11:
                return both("full", real.full(), model.full());
            case 12:
                return both("pairs", real.pairs(), model.pairs());
            case 13:
                w = index(guests);
                return both("line " + a + " " + w, real.line(a, w), model.line(a, w));
            case 14:
                d = days(30);
                boolean some = below(2) == 0;
                return both("hear " + d + " " + some, real.hear(d, some), model.hear(d, some));
            case 15:
                w = what(0, 2);
                return both("coals " + w, real.coals(w), model.coals(w));
            case 16:
                return both("ask", real.ask(), model.ask());
            case 17:
                d = days(30);
                w = what(0, 3);
                return both("colder " + d + " " + w, real.colder(d, w), model.colder(d, w));
            case 18:
                return restsBoth();
            case 19:
                w = what(0, 2);
                d = days(99);
                int seed = below(20) == 0 ? new int[] {-1, 10000, 9999}[below(3)] : below(10000);
                return both("winters " + seed + " " + d + " " + w, real.winters(seed, d, w), model.winters(seed, d, w));
            default:
                if (below(4) > 0) {
                    w = what(0, 3);
                    boolean back = below(3) > 0;
                    return both("mark " + w + " " + back, real.mark(w, back), model.mark(w, back));
                }
                w = what(0, 12);
                return both("count " + w, real.count(w), model.count(w));
        }
    }

    private String restsBoth() {
        int p = what(0, 9);
        int l = what(0, 9);
        int g = what(0, 9);
        int w = what(-1, 4);
        int due;
        try {
            due = model.rests(p, l, g, w);
        } catch (NoSuchElementException e) {
            due = Check.THROWN;
        }
        return both("rests " + p + " " + l + " " + g + " " + w, Check.rests(real, p, l, g, w), due);
    }

    private String both(String call, long got, long want) {
        this.got = got;
        this.want = want;
        return call;
    }

    private String both(String call, boolean got, boolean want) {
        return both(call, got ? 1 : 0, want ? 1 : 0);
    }

    private String tell(String text, boolean isTerrace) {
        if (below(3) == 0 && !text.isEmpty()) {
            text = spoil(text);
        }
        for (int i = 0; i < text.length(); i += 24) {
            long a = Check.bytes(text, i);
            long b = Check.bytes(text, i + 8);
            long c = Check.bytes(text, i + 16);
            Check.due("feed of " + text, real.feed(a, b, c), model.feed(a, b, c));
            calls++;
        }
        got = isTerrace ? real.terrace() : real.winter();
        want = isTerrace ? model.terrace() : model.winter();
        holes = model.count(0);
        guests = model.count(1);
        return (isTerrace ? "terrace of " : "winter of ") + text;
    }

    private String spoil(String text) {
        int at = below(text.length());
        String stray = below(8) == 0 ? String.valueOf((char) below(256)) : STRAY[below(STRAY.length)];
        switch (below(4)) {
            case 0:
                return text.substring(0, at) + stray + text.substring(at);
            case 1:
                return text.substring(0, at) + " " + stray + " " + text.substring(at);
            case 2:
                return text.substring(0, at) + text.substring(Math.min(text.length(), at + 1 + below(6)));
            default:
                int next = text.indexOf(' ', at);
                int end = next < 0 ? -1 : text.indexOf(' ', next + 1);
                return end < 0 ? text.substring(0, at) : text.substring(0, next + 1) + stray + text.substring(end);
        }
    }

    private String terraceText() {
        StringBuilder s = new StringBuilder();
        int h = below(10) == 0 ? 6 : below(10) == 0 ? 0 : 1 + below(5);
        int g = below(10) == 0 ? 6 : below(10) == 0 ? 0 : 1 + below(5);
        int flags = 2 + below(3);
        boolean isWarm = below(3) == 0;
        for (int i = 0; i < h; i++) {
            s.append("hole h").append((char) ('a' + i)).append(" flag ").append(below(flags)).append(" coal ")
                .append(below(4) == 0 ? below(61) : below(25)).append(" burns ").append(below(isWarm ? 3 : 10)).append(";");
        }
        for (int i = below(7); i > 0 && h > 0; i--) {
            s.append("wall h").append((char) ('a' + below(h))).append(" h").append((char) ('a' + below(h))).append(" ; ");
            if (!isSound(s)) {
                s.setLength(s.lastIndexOf("wall"));
            }
        }
        for (int i = 0; i < g; i++) {
            s.append("guest g").append((char) ('a' + i)).append(" ").append(KINDS[below(4)]).append(" flag ")
                .append(below(flags)).append(";\n");
        }
        for (int i = below(4); i > 0; i--) {
            s.append("war ").append(below(flags)).append(" ").append(below(flags)).append(";");
            if (!isSound(s)) {
                s.setLength(s.lastIndexOf("war"));
            }
        }
        if (below(3) > 0) {
            s.append("cold");
            for (int i = below(15) == 0 ? 13 : 1 + below(12); i > 0; i--) {
                s.append(" ").append(below(isWarm ? 2 : 4) * below(2));
            }
            s.append(";");
        }
        if (below(2) == 0) {
            s.append("sack ").append(1 + below(20)).append(";");
        }
        if (below(3) > 0) {
            s.append("takes ").append(expression(0)).append(";");
        }
        return s.toString();
    }

    /** Doubled walls and wars are mostly kept out; some stay in, for their faults. */
    private boolean isSound(StringBuilder s) {
        Model m = new Model();
        for (int i = 0; i < s.length(); i += 24) {
            String text = s.toString();
            m.feed(Check.bytes(text, i), Check.bytes(text, i + 8), Check.bytes(text, i + 16));
        }
        return m.terrace() == 0 || below(20) == 0;
    }

    private String expression(int depth) {
        StringBuilder s = new StringBuilder(test(depth));
        for (int i = below(3); i > 0; i--) {
            s.append(below(2) == 0 ? " and " : " or ").append(test(depth));
        }
        return s.toString();
    }

    private String test(int depth) {
        String[] signs = {"<", "=", " < "};
        return below(3) == 0 ? sum(depth) : sum(depth) + signs[below(3)] + sum(depth)
            + (below(60) == 0 ? "<" + sum(depth) : "");
    }

    private String sum(int depth) {
        StringBuilder s = new StringBuilder(product(depth));
        for (int i = below(3) * below(2); i > 0; i--) {
            s.append(below(2) == 0 ? "+" : "-").append(product(depth));
        }
        return s.toString();
    }

    private String product(int depth) {
        StringBuilder s = new StringBuilder(part(depth));
        for (int i = below(2) * below(2); i > 0; i--) {
            s.append("*").append(part(depth));
        }
        return s.toString();
    }

    private String part(int depth) {
        String[] facts = {"left", "inside", "same", "date"};
        int most = below(40) == 0 ? 6 : 4;
        switch (depth < most ? below(6) : below(4)) {
            case 0: case 1:
                return String.valueOf(below(10) == 0 ? below(10000) : below(6));
            case 2: case 3:
                return facts[below(4)];
            case 4:
                return " not " + part(depth + 1);
            default:
                return "(" + expression(depth + 1) + ")";
        }
    }

    private String winterText() {
        StringBuilder s = new StringBuilder();
        int most = below(6) == 0 ? 38 + below(5) : below(25);
        for (int i = 0; i < most; i++) {
            String guest = " g" + (char) ('a' + below(Math.max(1, guests)));
            String hole = " h" + (char) ('a' + below(Math.max(1, holes)));
            switch (below(6)) {
                case 0: case 1: s.append("down").append(guest).append(hole); break;
                case 2: s.append("up").append(guest); break;
                case 3: s.append("through").append(guest).append(hole); break;
                case 4: s.append("bring").append(hole); break;
                default: s.append("day");
            }
            s.append(";");
        }
        return s.toString();
    }
}

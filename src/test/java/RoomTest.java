import java.lang.management.ManagementFactory;
import java.util.NoSuchElementException;
import java.util.Random;

/** Rules of the house: no call throws by itself, whatever it is given, and none makes objects but exceptions. */
public final class RoomTest {
    private static final int[] WILD = {Integer.MIN_VALUE, Integer.MIN_VALUE + 1, -100, -3, -2, -1, 0, 1, 2, 3, 4, 5, 6, 7,
        12, 13, 16, 29, 30, 31, 32, 63, 64, 98, 99, 100, 9999, 10000, Integer.MAX_VALUE - 1, Integer.MAX_VALUE};
    private static final String[] WORDS = {"hole", "flag", "coal", "burns", "wall", "guest", "war", "cold", "sack",
        "takes", "down", "up", "through", "bring", "day", "plain", "wanted", "envoy", "cat", "not", "and", "or", "left",
        "inside", "same", "date", "(", ")", "<", "=", "+", "-", "*", ";", ";", ";", "0", "1", "2", "9", "60", "a", "b",
        "hole a flag 1 coal 9 burns 1;", "guest b wanted flag 2;", "takes ", "cold 1 2 3", "down b a;", "(((", "not not "};

    public static void main(String[] args) {
        wildCalls();
        longLaws();
        objects();
        Check.end();
    }

    private static void wildCalls() {
        Random random = new Random(20261118);
        for (int run = 0; run < 400; run++) {
            CoalHoles x = new CoalHoles();
            if (run % 2 == 0) {
                Check.terrace(x, fullTerrace("left<9 or inside*3<left"));
            }
            for (int i = 0; i < 512; i++) {
                callWildly(x, random);
            }
            Check.due("the tape's length", x.count(12) >= 0 && x.count(12) <= 1000, true);
        }
    }

    private static void callWildly(CoalHoles x, Random random) {
        int a = WILD[random.nextInt(WILD.length)];
        int b = WILD[random.nextInt(WILD.length)];
        int c = WILD[random.nextInt(WILD.length)];
        switch (random.nextInt(34)) {
            case 0: x.feed(random.nextLong(), random.nextLong(), random.nextLong()); break;
            case 1: case 2: case 3: Check.feed(x, WORDS[random.nextInt(WORDS.length)] + " "); break;
            case 4: if (random.nextInt(4) == 0) { x.terrace(); } break;
            case 5: if (random.nextInt(2) == 0) { x.winter(); } break;
            case 6: x.hole(a, b); break;
            case 7: x.guest(a, b); break;
            case 8: case 9: x.down(a, b); break;
            case 10: x.up(a); break;
            case 11: x.through(a, b); break;
            case 12: x.bring(a); break;
            case 13: x.day(); break;
            case 14: x.undo(); break;
            case 15: x.judged(a); break;
            case 16: x.lasts(a); break;
            case 17: x.safe(a); break;
            case 18: x.refuge(a); break;
            case 19: x.sacks(a, b); break;
            case 20: x.lodging(a, b); break;
            case 21: x.note(a, b); break;
            case 22: x.full(); break;
            case 23: x.pairs(); break;
            case 24: x.line(a, b); break;
            case 25: x.hear(a, b > 0); break;
            case 26: x.coals(a); break;
            case 27: x.ask(); break;
            case 28: x.colder(a, b); break;
            case 29: Check.rests(x, a, b, c, c); break;
            case 30: x.winters(a, b, c); break;
            case 31: x.mark(a, b > 0); break;
            default: x.count(a);
        }
    }

    private static String fullTerrace(String law) {
        return "hole a flag 1 coal 19 burns 1;hole b flag 2 coal 15 burns 2;hole c flag 3 coal 12 burns 1;"
            + "hole d flag 1 coal 40 burns 5;hole e flag 2 coal 30 burns 4;wall a b;wall b c;wall c d;wall d e;"
            + "guest p wanted flag 1;guest q wanted flag 2;guest r wanted flag 3;guest s plain flag 1;"
            + "guest t envoy flag 2;war 1 2;war 3 2;takes " + law + ";";
    }

    /** The deepest and the longest laws that a tape can hold. */
    private static void longLaws() {
        String deep = "0 or 0<0+1*1";
        for (int level = 0; level < 4; level++) {
            deep = "0 or 0<0+1*(" + deep + ")";
        }
        CoalHoles x = Check.onTerrace("hole a flag 1 coal 9 burns 1;guest p plain flag 1;takes " + deep + ";");
        Check.due("the deepest law", x.hole(0, 5), 1);
        StringBuilder law = new StringBuilder("1");
        while (law.length() < 900) {
            law.append("+1");
        }
        x = Check.onTerrace("hole a flag 1 coal 9 burns 1;guest p plain flag 1;takes " + law + "=451;");
        Check.due("the longest law", x.hole(0, 5), 1);
    }

    /** A run of the dearest calls leaves the room as the constructor filled it. */
    private static void objects() {
        CoalHoles x = new CoalHoles();
        String text = fullTerrace("same*5+left-inside*6<date or 3<left");
        long[] signs = new long[(text.length() + 23) / 24 * 3];
        for (int i = 0; i < signs.length; i++) {
            signs[i] = Check.bytes(text, 8 * i);
        }
        dearCalls(x, signs);
        com.sun.management.ThreadMXBean threads = (com.sun.management.ThreadMXBean) ManagementFactory.getThreadMXBean();
        threads.getCurrentThreadAllocatedBytes();
        long before = threads.getCurrentThreadAllocatedBytes();
        long asking = threads.getCurrentThreadAllocatedBytes() - before;
        before = threads.getCurrentThreadAllocatedBytes();
        for (int i = 0; i < 20; i++) {
            dearCalls(x, signs);
        }
        long made = threads.getCurrentThreadAllocatedBytes() - before - asking;
        Check.due("bytes of objects made by calls, some hundreds let pass", made < 1000 ? 0 : made, 0);
    }

    private static void dearCalls(CoalHoles x, long[] signs) {
        for (int i = 0; i + 2 < signs.length; i += 3) {
            x.feed(signs[i], signs[i + 1], signs[i + 2]);
        }
        if (x.terrace() != 0) {
            throw new NoSuchElementException("the terrace");
        }
        x.winter();
        for (int i = 0; i < 40; i++) {
            x.down(i % 5, i % 5);
            x.bring(i % 5);
            x.lodging(1 + i % 30, -1);
            x.sacks(1 + i % 30, -1);
            x.refuge(i % 5);
            x.winters(i, 99, i % 3);
            x.colder(30, 3);
            x.judged(i % 3);
            x.hear(1 + i % 30, i % 2 == 0);
            x.ask();
            x.mark(i % 4, i > 20);
            x.day();
            x.undo();
        }
    }
}

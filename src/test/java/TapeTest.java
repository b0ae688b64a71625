/** Promises 1 and 2: a new object, and what comes on its tape. */
public final class TapeTest {
    public static void main(String[] args) {
        newObject();
        signs();
        fullTape();
        Check.end();
    }

    private static void newObject() {
        CoalHoles x = new CoalHoles();
        int[] counts = {0, 0, 5, 0, 1, 0, 0, 0, 0, 0, 0, 0, 0};
        for (int what = 0; what < counts.length; what++) {
            Check.due("new: count(" + what + ")", x.count(what), counts[what]);
        }
        Check.due("NONE", CoalHoles.NONE, -1);
        Check.due("new: undo()", x.undo(), false);
        Check.due("new: mark(0, true)", x.mark(0, true), false);
        Check.due("new: hole(0, 0)", x.hole(0, 0), -1);
        Check.due("new: guest(0, 0)", x.guest(0, 0), -2);
        Check.due("new: bring(0)", x.bring(0), -1);
        Check.due("new: down(0, 0)", x.down(0, 0), false);
        Check.due("new: coals(0)", x.coals(0), 61);
        Check.due("new: winters(7, 99, 2)", x.winters(7, 99, 2), 0);
        CoalHoles other = new CoalHoles();
        x.day();
        Check.feed(x, "abc");
        Check.due("another object's count(3)", other.count(3), 0);
        Check.due("another object's count(12)", other.count(12), 0);
    }

    private static void signs() {
        CoalHoles x = new CoalHoles();
        Check.due("no sign", x.feed(0, 0, 0), 0);
        Check.due("others than 10 and 32 .. 126", x.feed(0x00090b0d1f7f80ffL, -1L, Long.MIN_VALUE), 0);
        Check.due("10, 32, 126", x.feed(0x0a207e0000000000L, 0, 0), 3);
        Check.due("the end of c", x.feed(0, 0, 'z'), 4);
        Check.due("the highest first", Check.terrace(x, ""), Check.fault(1, 2));
        Check.due("the tape is taken", x.count(12), 0);
        // s a c k in a, 20 in b, ; in c, with what is left out between them
        x.feed(0x7300ff6163096b00L, 0x20323000000000ffL, 0x000000000000003bL);
        Check.due("sack 20;", x.terrace(), 0);
        Check.due("sack", x.count(2), 20);
        x.feed(Check.bytes("sack 7", 0), 0, 0);
        Check.due("behind one another", x.feed(0, 0, Check.bytes("\n\n\n\n\n\n\n;", 0)), 14);
        Check.due("sack 7 ;", x.terrace(), 0);
        Check.due("sack", x.count(2), 7);
    }

    private static void fullTape() {
        CoalHoles x = new CoalHoles();
        long blanks = 0x2020202020202020L;
        for (int i = 1; i <= 41; i++) {
            Check.due("feed " + i, x.feed(blanks, blanks, blanks), 24 * i);
        }
        Check.due("1,000 at most", x.feed(blanks, Check.bytes("sack 9;a", 0), blanks), 1000);
        Check.due("a full tape", x.feed(blanks, blanks, blanks), 1000);
        Check.due("count(12)", x.count(12), 1000);
        Check.due("what is beyond is left out", x.terrace(), Check.fault(1, 999));
        Check.feed(x, " ".repeat(993) + "sack 8;sack 9;");
        Check.due("1,000 signs are read", x.terrace(), 0);
        Check.due("sack", x.count(2), 8);
        Check.feed(x, " ".repeat(1000));
        Check.due("blanks alone", x.terrace(), 0);
        Check.due("sack", x.count(2), 5);
        Check.feed(x, "sack 5" + " ".repeat(1000));
        Check.due("the end is at the text's length", x.terrace(), Check.fault(1, 1000));
    }
}

/** Promises 7 to 12 and 29: what is done by hand, undone, and held by marks. */
public final class HandTest {
    private static final String TERRACE = "hole a flag 1 coal 10 burns 2;hole b flag 2 coal 6 burns 3;"
        + "hole c flag 3 coal 0 burns 1;wall a b;wall b c;"
        + "guest p plain flag 1;guest w wanted flag 2;guest e envoy flag 3;guest k cat flag 4;cold 1 2 0;sack 7;";

    public static void main(String[] args) {
        down();
        up();
        through();
        bring();
        days();
        undo();
        undoSixteen();
        marks();
        markedWinters();
        Check.end();
    }

    private static void down() {
        CoalHoles x = Check.onTerrace(TERRACE);
        Check.due("no coal", x.down(0, 2), false);
        Check.due("down", x.down(0, 0), true);
        Check.due("in a hole already", x.down(0, 0), false);
        Check.due("in another already", x.down(0, 1), false);
        Check.due("a cat, no coal", x.down(3, 2), true);
        int[][] wrong = {{-1, 0}, {4, 0}, {1, -1}, {1, 3}, {Integer.MAX_VALUE, 0}, {1, Integer.MIN_VALUE}};
        for (int[] pair : wrong) {
            Check.due("down(" + pair[0] + ", " + pair[1] + ")", x.down(pair[0], pair[1]), false);
        }
        Check.due("only what was done can be undone", x.count(11), 2);
        x.day();
        Check.due("seized", x.down(1, 1), false);
        Check.due("bits", x.hole(0, 3), 1);
    }

    private static void up() {
        CoalHoles x = Check.onTerrace(TERRACE);
        Check.due("in the street", x.up(0), false);
        x.down(0, 0);
        Check.due("up", x.up(0), true);
        Check.due("where", x.guest(0, 2), -1);
        Check.due("down again", x.down(0, 1), true);
        Check.due("up(-1)", x.up(-1), false);
        Check.due("up(4)", x.up(4), false);
        Check.due("up(MIN)", x.up(Integer.MIN_VALUE), false);
        Check.due("count(11)", x.count(11), 3);
        x.down(3, 2);
        Check.due("a cat", x.up(3), true);
    }

    private static void through() {
        CoalHoles x = Check.onTerrace(TERRACE);
        Check.due("from the street", x.through(0, 0), false);
        x.down(0, 0);
        x.down(3, 0);
        Check.due("not beside", x.through(0, 2), false);
        Check.due("the same", x.through(0, 0), false);
        Check.due("beside", x.through(0, 1), true);
        Check.due("left", x.hole(0, 3), 8);
        Check.due("come", x.hole(1, 3), 1);
        Check.due("no coal", x.through(0, 2), false);
        Check.due("a cat", x.through(3, 1), true);
        Check.due("a cat, no coal", x.through(3, 2), true);
        Check.due("back", x.through(0, 0), true);
        int[][] wrong = {{-1, 1}, {4, 1}, {0, -1}, {0, 3}, {0, Integer.MAX_VALUE}, {Integer.MIN_VALUE, 0}};
        for (int[] pair : wrong) {
            Check.due("through(" + pair[0] + ", " + pair[1] + ")", x.through(pair[0], pair[1]), false);
        }
        Check.due("count(11)", x.count(11), 6);
        CoalHoles y = Check.onTerrace("hole a flag 1 coal 9 burns 1;hole b flag 1 coal 4 burns 1;wall b a;"
            + "guest p plain flag 1;guest q plain flag 1;");
        y.down(0, 0);
        y.down(1, 1);
        Check.due("one more than it takes", y.through(0, 1), false);
        y.bring(1);
        Check.due("with a sack it does", y.through(0, 1), true);
    }

    private static void bring() {
        CoalHoles x = Check.onTerrace(TERRACE);
        Check.due("bring", x.bring(0), 17);
        Check.due("bring(3)", x.bring(3), -1);
        Check.due("bring(-1)", x.bring(-1), -1);
        Check.due("bring(MIN)", x.bring(Integer.MIN_VALUE), -1);
        for (int coal = 24; coal < 99; coal += 7) {
            Check.due("bring", x.bring(0), coal);
        }
        Check.due("99 at most", x.bring(0), 99);
        Check.due("99 still", x.bring(0), 99);
        Check.due("they were brought", x.count(8), 14);
        Check.due("undone", x.undo() && x.undo(), true);
        Check.due("coal", x.hole(0, 1), 94);
        Check.due("brought", x.count(8), 12);
        Check.due("told anew", x.bring(2), 7);
    }

    private static void days() {
        CoalHoles x = Check.onTerrace(TERRACE);
        x.down(0, 1);
        x.down(1, 1);
        x.down(3, 1);
        Check.due("cold 1", x.day(), 0);
        Check.due("a", x.hole(0, 1), 8);
        Check.due("b", x.hole(1, 1), 3);
        Check.due("c", x.hole(2, 1), 0);
        Check.due("cold 2: put out, seized", x.day(), 2);
        Check.due("a", x.hole(0, 1), 4);
        Check.due("b, 0 at least", x.hole(1, 1), 0);
        Check.due("the cat stays", x.hole(1, 3), 8);
        Check.due("plain, in the street", x.guest(0, 2), -1);
        Check.due("plain, not seized", x.guest(0, 3), 0);
        Check.due("street", x.count(6), 5);
        Check.due("seized", x.count(7), 2);
        Check.due("cold 0, nobody more", x.day(), 0);
        Check.due("a", x.hole(0, 1), 4);
        Check.due("the date", x.count(3), 3);
        CoalHoles y = Check.onTerrace("guest v wanted flag 1;guest p plain flag 1;guest w wanted flag 1;cold 0;");
        Check.due("in the street, without cold, too", y.day(), 5);
        Check.due("for good", y.day(), 0);
        Check.due("seized", y.count(7), 5);
    }

    private static void undo() {
        CoalHoles x = Check.onTerrace(TERRACE);
        x.down(0, 0);
        x.through(0, 1);
        x.up(0);
        x.down(1, 1);
        x.bring(1);
        x.day();
        x.day();
        x.up(1);
        x.day();
        Check.due("seized", x.count(7), 2);
        Check.due("the day", x.undo(), true);
        Check.due("not seized", x.count(7), 0);
        Check.due("date", x.count(3), 2);
        Check.due("the street", x.guest(1, 2), -1);
        x.undo();
        Check.due("up", x.guest(1, 2), 1);
        x.undo();
        Check.due("day", x.hole(0, 1), 8);
        x.undo();
        Check.due("day", x.hole(1, 1), 13);
        x.undo();
        Check.due("bring", x.hole(1, 1), 6);
        Check.due("brought", x.count(8), 0);
        x.undo();
        Check.due("down", x.guest(1, 2), -1);
        x.undo();
        Check.due("up", x.guest(0, 2), 1);
        x.undo();
        Check.due("through", x.guest(0, 2), 0);
        x.undo();
        Check.due("down", x.guest(0, 2), -1);
        Check.due("nothing more", x.undo(), false);
        x.hear(3, true);
        Check.winter(x, "day;");
        Check.due("what is heard or told is no deed", x.undo(), false);
        Check.due("count(10)", x.count(10), 1);
    }

    private static void undoSixteen() {
        CoalHoles x = Check.onTerrace(TERRACE);
        for (int i = 1; i <= 20; i++) {
            x.day();
            Check.due("count(11)", x.count(11), Math.min(i, 16));
        }
        for (int i = 15; i >= 0; i--) {
            Check.due("undo()", x.undo(), true);
            Check.due("date", x.count(3), 4 + i);
            Check.due("count(11)", x.count(11), i);
        }
        Check.due("the seventeenth", x.undo(), false);
        x.bring(0);
        Check.due("one again", x.undo(), true);
        Check.due("no more", x.undo(), false);
    }

    private static void marks() {
        CoalHoles x = Check.onTerrace(TERRACE);
        Check.due("nothing on it", x.mark(0, true), false);
        Check.due("none such", x.mark(4, false), false);
        Check.due("none such", x.mark(-1, false), false);
        Check.due("none such", x.mark(Integer.MAX_VALUE, true), false);
        x.down(0, 0);
        x.bring(1);
        x.hear(5, true);
        Check.winter(x, "day;day;bring a;");
        Check.feed(x, "tape");
        Check.due("laid", x.mark(3, false), true);
        Check.due("what can be undone stays", x.count(11), 2);
        Check.due("nothing on another", x.mark(2, true), false);
        x.day();
        x.up(0);
        x.bring(2);
        x.hear(6, true);
        Check.feed(x, "s");
        Check.due("a winter over it", x.winter(), Check.fault(1, 0));
        Check.winter(x, "");
        Check.due("seized", x.count(7), 2);
        x.mark(0, false);
        Check.due("back", x.mark(3, true), true);
        int[] due = {3, 4, 7, 0, 1, 10 + 13, 14, 0, 1, 3, 1, 0, 0};
        for (int what = 0; what < due.length; what++) {
            Check.due("count(" + what + ")", x.count(what), due[what]);
        }
        Check.due("inside", x.hole(0, 3), 1);
        Check.due("judged", x.judged(2), 1);
        Check.due("coals", x.coals(0), 60 - 2 * (1 + 2 + 1 + 2));
        Check.due("undo()", x.undo(), false);
        x.day();
        Check.due("back again", x.mark(3, true), true);
        Check.due("date", x.count(3), 0);
        Check.due("the other one", x.mark(0, true), true);
        Check.due("date", x.count(3), 1);
        Check.due("count(8)", x.count(8), 2);
        Check.due("count(9)", x.count(9), 0);
        Check.due("count(10)", x.count(10), 2);
        x.day();
        x.mark(3, false);
        x.mark(0, true);
        x.mark(3, true);
        Check.due("laid anew", x.count(3), 2);
    }

    /** A mark holds all of the winter and all that was heard, whatever is told and heard behind it. */
    private static void markedWinters() {
        CoalHoles x = Check.onTerrace(TERRACE);
        Check.winter(x, "down p c;down p a;through p b;day;bring a;");
        x.hear(1, true);
        x.hear(9, false);
        int[] due = {x.judged(0), x.judged(1), x.judged(2), x.coals(0), x.coals(1), x.coals(2)};
        x.mark(1, false);
        for (int i = 0; i < 3; i++) {
            Check.winter(x, "down w a;down w b;day;bring b;bring c;bring c;");
            x.mark(2, false);
            x.mark(1, true);
            int[] got = {x.judged(0), x.judged(1), x.judged(2), x.coals(0), x.coals(1), x.coals(2)};
            for (int what = 0; what < 6; what++) {
                Check.due("as it was marked: " + what, got[what], due[what]);
            }
            x.hear(2, false);
            x.mark(3, false);
            x.mark(2, true);
            Check.due("the other winter", x.judged(0), 1);
            Check.due("the other winter", x.judged(1), -1);
            Check.due("the other winter", x.judged(2), 3);
            x.mark(3, true);
            Check.due("3, 4, 5, 6 less 2 burnt", x.coals(2), 6);
            x.mark(1, true);
        }
        Check.due("judged(0)", due[0], 0);
        Check.due("judged(1)", due[1], 3);
        Check.due("coals", due[3], 16);
        CoalHoles y = new CoalHoles();
        y.mark(0, false);
        y.hear(3, true);
        y.mark(1, false);
        y.mark(0, true);
        y.hear(4, false);
        y.mark(1, true);
        Check.due("7 to 60", y.coals(1), 7);
        Check.due("7 to 60", y.coals(2), 60);
    }
}

/** The edges of the rest: NOTE, FULL, PAIRS, HEARD, COALS, ASK, LID and RESTS, count; promises 19 to 21, 23 to 25, 27, 30. */
public final class EdgeRiddleTest {
    public static void main(String[] args) {
        note();
        noteNone();
        full();
        pairs();
        hearDays();
        hearEight();
        coalsHeard();
        coalsNone();
        coalsFromNow();
        ask();
        askDays();
        askNone();
        restsArguments();
        restsWhat();
        restsEqual();
        countWhat();
        counts();
        Check.end();
    }

    private static String holes(int many) {
        StringBuilder s = new StringBuilder();
        for (int i = 0; i < many; i++) {
            s.append("hole ").append((char) ('a' + i)).append(" flag 1 coal 0 burns 0;");
        }
        return s.toString();
    }

    private static void note() {
        Check.sentence("NOTE, Promise 19", "by how many walls, at least (0: the same)");
        String row = holes(5) + "wall a b;wall b c;wall c d;wall d e;";
        CoalHoles x = Check.onTerrace(row);
        for (int from = 0; from < 5; from++) {
            for (int to = 0; to < 5; to++) {
                Check.due("a row: note(" + from + ", " + to + ")", x.note(from, to), Math.abs(from - to));
            }
        }
        CoalHoles y = Check.onTerrace(row + "wall e a;");
        for (int from = 0; from < 5; from++) {
            for (int to = 0; to < 5; to++) {
                int way = Math.abs(from - to);
                Check.due("a ring: note(" + from + ", " + to + ")", y.note(from, to), Math.min(way, 5 - way));
            }
        }
        CoalHoles z = Check.onTerrace(row + "wall a d;");
        Check.dueAt("the shorter way from a", Check.at(0, 1, 2, 3, 4), to -> z.note(0, to), 0, 1, 2, 1, 2);
        Check.due("coal, law and foes count for nothing", Check.onTerrace("hole a flag 1 coal 0 burns 9;hole b flag 1 coal 0 burns 9;"
            + "wall a b;takes 0;").note(1, 0), 1);
    }

    private static void noteNone() {
        Check.sentence("NOTE, Promise 19", "NONE: others, none");
        CoalHoles x = Check.onTerrace(holes(4) + "wall a b;");
        Check.dueAt("from a", Check.at(Integer.MIN_VALUE, -2, -1, 0, 1, 2, 3, 4, 5, 32, Integer.MAX_VALUE), to -> x.note(0, to),
            -1, -1, -1, 0, 1, -1, -1, -1, -1, -1, -1);
        Check.dueAt("to a", Check.at(Integer.MIN_VALUE, -2, -1, 0, 1, 2, 3, 4, 5, 32, Integer.MAX_VALUE), from -> x.note(from, 0),
            -1, -1, -1, 0, 1, -1, -1, -1, -1, -1, -1);
        Check.dueAt("the same", Check.at(Integer.MIN_VALUE, -1, 0, 3, 4, Integer.MAX_VALUE), hole -> x.note(hole, hole),
            -1, -1, 0, 0, -1, -1);
        Check.due("one hole", Check.onTerrace(holes(1)).note(0, 0), 0);
        Check.due("no hole", new CoalHoles().note(0, 0), -1);
    }

    private static void full() {
        Check.sentence("FULL, Promise 20", "HOLES that TAKE none of those who are in the street, not SEIZED (all, if nobody is)");
        CoalHoles x = Check.onTerrace("hole a flag 1 coal 1 burns 0;hole b flag 2 coal 1 burns 0;hole c flag 3 coal 0 burns 0;"
            + "guest p plain flag 1;guest w wanted flag 2;takes same;");
        Check.due("c takes none", x.full(), 4);
        x.down(0, 0);
        Check.due("nor does a take w", x.full(), 5);
        x.down(1, 1);
        Check.due("nobody is in the street", x.full(), 7);
        x.up(1);
        Check.due("w again", x.full(), 5);
        x.day();
        Check.due("w is seized: nobody is", x.full(), 7);
        x.up(0);
        Check.due("p again", x.full(), 6);
        CoalHoles y = Check.onTerrace(holes(5) + "guest k cat flag 1;");
        Check.due("a cat: none is full", y.full(), 0);
        y.down(0, 4);
        Check.due("nobody: all five", y.full(), 31);
        Check.due("no guests", Check.onTerrace(holes(1)).full(), 1);
        Check.due("no holes", Check.onTerrace("guest p plain flag 1;").full(), 0);
        CoalHoles z = Check.onTerrace("hole a flag 1 coal 19 burns 0;guest p plain flag 1;guest q plain flag 2;war 1 2;sack 1;");
        z.down(0, 0);
        Check.due("a foe, 19 coal", z.full(), 1);
        z.bring(0);
        Check.due("a foe, 20 coal", z.full(), 0);
    }

    private static void pairs() {
        Check.sentence("PAIRS, Promise 21", "of GUESTS who are at WAR, wherever they are, SEIZED ones, too");
        Check.due("none", new CoalHoles().pairs(), 0);
        Check.due("one guest", Check.onTerrace("guest p plain flag 1;war 1 2;").pairs(), 0);
        Check.due("two", Check.onTerrace("guest p plain flag 1;guest q plain flag 2;war 2 1;").pairs(), 1);
        Check.due("two of a flag", Check.onTerrace("guest p plain flag 1;guest q plain flag 1;war 2 1;").pairs(), 0);
        CoalHoles x = Check.onTerrace("hole a flag 1 coal 60 burns 0;guest p plain flag 1;guest q cat flag 2;guest r wanted flag 2;"
            + "guest s envoy flag 3;guest t wanted flag 1;war 2 1;war 1 3;");
        Check.due("2 * 2 and 2 * 1", x.pairs(), 6);
        x.down(0, 0);
        x.down(1, 0);
        Check.due("wherever they are", x.pairs(), 6);
        x.day();
        Check.due("two are seized", x.count(7), 20);
        Check.due("seized ones, too", x.pairs(), 6);
        Check.due("all ten", Check.onTerrace("guest p cat flag 0;guest q cat flag 1;guest r cat flag 2;guest s cat flag 3;"
            + "guest t cat flag 9;war 0 1;war 0 2;war 0 3;war 0 9;war 1 2;war 1 3;war 1 9;war 2 3;war 2 9;war 3 9;").pairs(), 10);
    }

    private static void hearDays() {
        Check.sentence("HEARD, Promise 23", "behind so many (1 to 30) DAYS; false: others");
        for (int days : new int[] {Integer.MIN_VALUE, -1, 0, 1, 2, 29, 30, 31, 32, Integer.MAX_VALUE}) {
            for (boolean some : new boolean[] {true, false}) {
                CoalHoles x = new CoalHoles();
                boolean can = days >= 1 && days <= 30;
                Check.due("hear(" + days + ", " + some + ")", x.hear(days, some), can);
                Check.due("count(10)", x.count(10), can ? 1 : 0);
                Check.due("the least", x.coals(1), !can || !some ? 0 : days == 30 ? -1 : 2 * days + 1);
                Check.due("the greatest", x.coals(2), !can ? 60 : some ? days == 30 ? -1 : 60 : 2 * days);
            }
        }
    }

    private static void hearEight() {
        Check.sentence("HEARD, Promise 23", "8 at most; false: 8 there are");
        CoalHoles x = new CoalHoles();
        for (int i = 1; i <= 10; i++) {
            Check.due("hear " + i, x.hear(i, true), i <= 8);
            Check.due("count(10)", x.count(10), Math.min(i, 8));
            Check.due("the least", x.coals(1), 2 * Math.min(i, 8) + 1);
        }
        Check.due("a wrong one", x.hear(31, true), false);
        CoalHoles y = new CoalHoles();
        for (int i = 1; i <= 8; i++) {
            Check.due("the same, over again", y.hear(4, false), true);
        }
        Check.due("8 there are", y.hear(4, false), false);
        Check.due("0 to 8", y.coals(0), 9);
        y.mark(0, false);
        Check.due("a terrace", Check.terrace(y, ""), 0);
        Check.due("nothing is heard", y.hear(4, true), true);
        Check.due("count(10)", y.count(10), 1);
    }

    private static void coalsHeard() {
        Check.sentence("HEARD, COALS", "0 to 60 coal now, burning 2, some left behind so many DAYS, or none");
        for (int days : new int[] {1, 2, 15, 28, 29, 30}) {
            CoalHoles some = new CoalHoles();
            some.hear(days, true);
            Check.dueAt("some behind " + days, Check.at(0, 1, 2), some::coals, 60 - 2 * days, days < 30 ? 2 * days + 1 : -1,
                days < 30 ? 60 : -1);
            CoalHoles none = new CoalHoles();
            none.hear(days, false);
            Check.dueAt("none behind " + days, Check.at(0, 1, 2), none::coals, 2 * days + 1, 0, 2 * days);
        }
        CoalHoles x = new CoalHoles();
        Check.dueAt("nothing heard", Check.at(Integer.MIN_VALUE, -2, -1, 0, 1, 2, 3, 4, Integer.MAX_VALUE), x::coals,
            -1, -1, -1, 61, 0, 60, -1, -1, -1);
        x.hear(10, true);
        x.hear(11, false);
        Check.dueAt("21 and 22", Check.at(0, 1, 2), x::coals, 2, 21, 22);
        x.hear(9, true);
        x.hear(12, false);
        Check.dueAt("what tells less changes nothing", Check.at(0, 1, 2), x::coals, 2, 21, 22);
        CoalHoles y = Check.onTerrace("cold 0;");
        y.hear(30, false);
        Check.dueAt("nothing burns: 0 alone", Check.at(0, 1, 2), y::coals, 1, 0, 0);
        CoalHoles z = Check.onTerrace("cold 0;");
        z.hear(30, true);
        Check.dueAt("nothing burns: all but 0", Check.at(0, 1, 2), z::coals, 60, 1, 60);
        CoalHoles w = Check.onTerrace("cold 3;");
        Check.dueAt("6 a day: some behind", Check.at(8, 9, 10), days -> {
            w.mark(0, false);
            w.hear(days, true);
            int many = w.coals(0);
            w.mark(0, true);
            return many;
        }, 12, 6, 0);
    }

    private static void coalsNone() {
        Check.sentence("COALS, Promise 24", "NONE: others, none (but 0)");
        CoalHoles x = new CoalHoles();
        x.hear(5, true);
        x.hear(5, false);
        Check.dueAt("none", Check.at(Integer.MIN_VALUE, -1, 0, 1, 2, 3, Integer.MAX_VALUE), x::coals, -1, -1, 0, -1, -1, -1, -1);
        CoalHoles y = new CoalHoles();
        y.hear(9, true);
        y.hear(1, false);
        Check.dueAt("none by far", Check.at(0, 1, 2), y::coals, 0, -1, -1);
        CoalHoles z = Check.onTerrace("cold 3;");
        z.hear(30, true);
        Check.dueAt("none by farthest", Check.at(0, 1, 2), z::coals, 0, -1, -1);
        Check.due("ask()", z.ask(), -1);
    }

    private static void coalsFromNow() {
        Check.sentence("HEARD", "DAYS from now, coal now: whenever now is");
        CoalHoles x = Check.onTerrace("cold 3 0 0 1;");
        x.hear(2, false);
        Check.dueAt("the greatest, day by day", Check.at(0, 1, 2, 3, 4), date -> {
            int greatest = x.coals(2);
            x.day();
            return greatest;
        }, 6, 0, 2, 8, 6);
        x.undo();
        x.undo();
        Check.due("undone: the third day", x.coals(2), 8);
        Check.due("what is heard stays", x.count(10), 1);
    }

    private static void ask() {
        Check.sentence("ASK, Promise 25", "the least number of DAYS behind which the greater number of these COALS is the least");
        CoalHoles x = new CoalHoles();
        Check.due("61: 31 and 30", x.ask(), 15);
        x.hear(1, false);
        Check.due("0 to 2: none parts them within a day or more", x.ask(), -1);
        for (int[] c : new int[][] {{2, 1}, {3, 1}, {4, 2}, {5, 2}, {6, 3}, {7, 3}, {29, 14}, {30, 15}}) {
            CoalHoles y = new CoalHoles();
            y.hear(c[0], false);
            // 0 to 2 * n: behind d days 2 * d + 1 are without, 2 * (n - d) with.
            Check.due("0 to " + 2 * c[0], y.ask(), c[1]);
        }
        CoalHoles z = new CoalHoles();
        z.hear(10, true);
        z.hear(13, false);
        Check.due("21 to 26: 2 and 4, 4 and 2: the least number", z.ask(), 11);
        CoalHoles w = Check.onTerrace("cold 0 0 0 1;");
        w.hear(12, false);
        Check.due("0 to 6: behind 4 days 3 and 4, behind 8 5 and 2", w.ask(), 4);
    }

    private static void askDays() {
        Check.sentence("ASK", "DAYS (1 to 30)");
        Check.due("nothing burns: 0 and the others", Check.onTerrace("cold 0;").ask(), 1);
        CoalHoles x = Check.onTerrace("cold 1 0;");
        Check.due("30 burnt in 29 days: 31 and 30", x.ask(), 29);
        x.day();
        Check.due("30 burnt in 30 days", x.ask(), 30);
        CoalHoles y = Check.onTerrace("cold 0 1 0;");
        // In 30 days 20 are burnt, since the 29th: 21 and 40.
        Check.due("the most that can be burnt", y.ask(), 29);
        y.day();
        y.day();
        Check.due("the 30th", y.ask(), 30);
        y.undo();
        Check.due("the 28th", y.ask(), 28);
    }

    private static void askNone() {
        Check.sentence("ASK, Promise 25", "if that is less than all; NONE: none parts them");
        CoalHoles x = new CoalHoles();
        x.hear(29, true);
        x.hear(30, false);
        Check.due("59 and 60", x.coals(0), 2);
        Check.due("both go out on the 30th day", x.ask(), -1);
        CoalHoles y = new CoalHoles();
        y.hear(28, true);
        Check.due("57 to 60", y.coals(0), 4);
        Check.due("2 and 2", y.ask(), 29);
        CoalHoles z = Check.onTerrace("cold 0 1;");
        z.hear(1, false);
        Check.due("0 alone", z.coals(0), 1);
        Check.due("one is parted by nothing", z.ask(), -1);
        CoalHoles w = new CoalHoles();
        w.hear(1, true);
        w.hear(1, false);
        Check.due("none", w.coals(0), 0);
        Check.due("nor are none", w.ask(), -1);
        CoalHoles v = Check.onTerrace("cold 0 0 0 0 0 0 0 0 0 0 0 1;");
        v.hear(30, true);
        Check.due("5 to 60 last beyond 30 days", v.coals(0), 56);
        Check.due("none parts them", v.ask(), -1);
        v.day();
        Check.due("from the second day it is so, too", v.ask(), -1);
    }

    private static void restsArguments() {
        Check.sentence("Promise 27", "so much (0 to 9) each; NoSuchElementException: others");
        CoalHoles x = new CoalHoles();
        for (int n : new int[] {Integer.MIN_VALUE, -2, -1, 0, 1, 8, 9, 10, 11, Integer.MAX_VALUE}) {
            boolean can = n >= 0 && n <= 9;
            for (int what : new int[] {-1, 0}) {
                Check.due("rests(" + n + ", 5, 5, " + what + ")", Check.rests(x, n, 5, 5, what) == Check.THROWN, !can);
                Check.due("rests(5, " + n + ", 5, " + what + ")", Check.rests(x, 5, n, 5, what) == Check.THROWN, !can);
                Check.due("rests(5, 5, " + n + ", " + what + ")", Check.rests(x, 5, 5, n, what) == Check.THROWN, !can);
            }
        }
    }

    private static void restsWhat() {
        Check.sentence("Promise 27", "what NONE: how many; i: the i-th, the least first; NoSuchElementException: none such");
        int t = Check.THROWN;
        CoalHoles x = new CoalHoles();
        int[] around = {Integer.MIN_VALUE, -3, -2, -1, 0, 1, 2, 3, 4, 5, Integer.MAX_VALUE};
        Check.dueAt("one: both let go", around, what -> Check.rests(x, 4, 3, 6, what), t, t, t, 1, 0, t, t, t, t, t, t);
        Check.dueAt("two: both let go, both hold", around, what -> Check.rests(x, 6, 3, 4, what), t, t, t, 2, 0, 3, t, t, t, t, t);
        Check.dueAt("three: all but both hold", around, what -> Check.rests(x, 4, 0, 6, what), t, t, t, 3, 0, 1, 2, t, t, t, t);
        Check.dueAt("all four", around, what -> Check.rests(x, 5, 0, 5, what), t, t, t, 4, 0, 1, 2, 3, t, t, t);
        boolean isThrown = false;
        try {
            x.rests(0, 0, 0, 4);
        } catch (java.util.NoSuchElementException e) {
            isThrown = e.getClass() == java.util.NoSuchElementException.class;
        }
        Check.due("the exception that the document names", isThrown, true);
    }

    private static void restsEqual() {
        Check.sentence("LID, RESTS", "by which neither would get more by the other");
        CoalHoles x = new CoalHoles();
        Check.dueAt("both hold, by what they get, 5 else", Check.at(4, 5, 6), both -> Check.rests(x, both, 1, 5, -1), 1, 2, 2);
        Check.dueAt("both hold, by what he would get else", Check.at(4, 5, 6), gets -> Check.rests(x, 5, 1, gets, -1), 2, 2, 1);
        Check.dueAt("one holds, by what he loses", Check.at(0, 1, 2), loses -> Check.rests(x, 4, loses, 5, -1), 3, 1, 1);
        Check.dueAt("one holds, by what the other gets", Check.at(4, 5, 6), gets -> Check.rests(x, 5, 0, gets, -1), 2, 4, 3);
        Check.due("0 all through", Check.rests(x, 0, 0, 0, -1), 4);
        Check.due("9 all through", Check.rests(x, 9, 9, 9, -1), 2);
        Check.due("9, 0, 9", Check.rests(x, 9, 0, 9, -1), 4);
        Check.due("0, 9, 0", Check.rests(x, 0, 9, 0, -1), 2);
        Check.due("0, 0, 9", Check.rests(x, 0, 0, 9, -1), 3);
        Check.due("9, 0, 0", Check.rests(x, 9, 0, 0, -1), 2);
    }

    private static void countWhat() {
        Check.sentence("Promise 30", "NONE for another what");
        CoalHoles x = Check.onTerrace("hole a flag 1 coal 9 burns 1;guest p plain flag 1;");
        Check.dueAt("count", Check.at(Integer.MIN_VALUE, -2, -1, 13, 14, Integer.MAX_VALUE), x::count, -1, -1, -1, -1, -1, -1);
        for (int what = 0; what <= 12; what++) {
            Check.due("count(" + what + ") is there", x.count(what) >= 0, true);
        }
    }

    private static void counts() {
        Check.sentence("Promise 30", "0: HOLES .. 12: signs on the TAPE");
        CoalHoles x = Check.onTerrace("hole a flag 1 coal 9 burns 2;hole b flag 1 coal 1 burns 2;guest p plain flag 1;"
            + "guest w wanted flag 1;guest v wanted flag 1;sack 7;cold 3 2;takes 1;");
        Check.dueAt("told", Check.at(0, 1, 2, 3, 4, 5, 6, 7, 8, 9, 10, 11, 12), x::count, 2, 3, 7, 0, 3, 10, 7, 0, 0, 0, 0, 0, 0);
        x.down(1, 0);
        Check.dueAt("one is down", Check.at(5, 6, 7, 8, 11), x::count, 10, 5, 0, 0, 1);
        x.bring(1);
        Check.dueAt("a sack", Check.at(5, 6, 7, 8, 11), x::count, 17, 5, 0, 1, 2);
        x.day();
        Check.dueAt("a day", Check.at(0, 1, 2, 3, 4, 5, 6, 7, 8, 9, 10, 11, 12), x::count, 2, 3, 7, 1, 2, 5, 1, 4, 1, 0, 0, 3, 0);
        Check.winter(x, "day;day;");
        x.hear(1, true);
        Check.feed(x, "four");
        Check.dueAt("told, heard, fed", Check.at(9, 10, 11, 12), x::count, 2, 1, 3, 4);
        x.undo();
        Check.dueAt("undone", Check.at(3, 4, 5, 6, 7, 8, 9, 10, 11, 12), x::count, 0, 3, 17, 5, 0, 1, 2, 1, 2, 4);
    }
}

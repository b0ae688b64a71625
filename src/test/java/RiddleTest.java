/** Promises 19, 23 to 25 and 27: notes by cats, the hole nobody has seen, the lid. */
public final class RiddleTest {
    public static void main(String[] args) {
        notes();
        heard();
        heardLater();
        ask();
        rests();
        Check.end();
    }

    private static void notes() {
        String holes = "hole a flag 1 coal 0 burns 0;hole b flag 1 coal 0 burns 0;hole c flag 1 coal 0 burns 0;"
            + "hole d flag 1 coal 0 burns 0;hole e flag 1 coal 0 burns 0;";
        CoalHoles x = Check.onTerrace(holes + "wall e a;wall a c;wall c b;wall b d;");
        int[][] due = {{0, 2, 1, 3, 1}, {2, 0, 1, 1, 3}, {1, 1, 0, 2, 2}, {3, 1, 2, 0, 4}, {1, 3, 2, 4, 0}};
        for (int from = 0; from < 5; from++) {
            for (int to = 0; to < 5; to++) {
                Check.due("note(" + from + ", " + to + ")", x.note(from, to), due[from][to]);
            }
        }
        int[][] wrong = {{-1, 0}, {0, -1}, {5, 0}, {0, 5}, {5, 5}, {Integer.MIN_VALUE, Integer.MIN_VALUE}};
        for (int[] w : wrong) {
            Check.due("note(" + w[0] + ", " + w[1] + ")", x.note(w[0], w[1]), -1);
        }
        CoalHoles y = Check.onTerrace(holes + "wall a b;wall c d;");
        Check.due("no way", y.note(0, 2), -1);
        Check.due("no way", y.note(4, 0), -1);
        Check.due("the same", y.note(4, 4), 0);
    }

    private static void heard() {
        CoalHoles x = new CoalHoles();
        Check.due("coals(0)", x.coals(0), 61);
        Check.due("coals(1)", x.coals(1), 0);
        Check.due("coals(2)", x.coals(2), 60);
        Check.due("coals(3)", x.coals(3), -1);
        Check.due("coals(-1)", x.coals(-1), -1);
        Check.due("hear(0, true)", x.hear(0, true), false);
        Check.due("hear(31, false)", x.hear(31, false), false);
        Check.due("hear(MIN, false)", x.hear(Integer.MIN_VALUE, false), false);
        Check.due("count(10)", x.count(10), 0);
        Check.due("hear(30, false)", x.hear(30, false), true);
        Check.due("all of them", x.coals(0), 61);
        Check.due("hear(1, true)", x.hear(1, true), true);
        Check.due("3 to 60", x.coals(0), 58);
        Check.due("the least", x.coals(1), 3);
        Check.due("hear(2, false)", x.hear(2, false), true);
        Check.due("3, 4", x.coals(0), 2);
        Check.due("the greatest", x.coals(2), 4);
        Check.due("hear(2, true)", x.hear(2, true), true);
        Check.due("none", x.coals(0), 0);
        Check.due("none", x.coals(1), -1);
        Check.due("none", x.coals(2), -1);
        Check.due("none parts them", x.ask(), -1);
        for (int i = 5; i <= 8; i++) {
            Check.due("hear " + i, x.hear(2, true), true);
        }
        Check.due("8 there are", x.hear(2, true), false);
        Check.due("count(10)", x.count(10), 8);
    }

    private static void heardLater() {
        CoalHoles x = Check.onTerrace("cold 3 0 0 1;");
        x.hear(2, false);
        Check.due("6 burnt: 0 to 6", x.coals(2), 6);
        x.day();
        Check.due("none burnt: 0", x.coals(2), 0);
        x.day();
        Check.due("2 burnt", x.coals(2), 2);
        x.day();
        Check.due("8 burnt", x.coals(2), 8);
    }

    private static void ask() {
        CoalHoles x = new CoalHoles();
        Check.due("31 and 30", x.ask(), 15);
        x.hear(15, true);
        // 31 to 60; behind 22 days 44 are burnt: 14 and 16; behind 23 days 46: 16 and 14: the least number.
        Check.due("30 coals", x.coals(0), 30);
        Check.due("the least of equal ones", x.ask(), 22);
        x.hear(22, false);
        x.hear(21, true);
        Check.due("43, 44", x.coals(0), 2);
        Check.due("none parts 43 and 44", x.ask(), -1);
        CoalHoles y = Check.onTerrace("cold 0;");
        Check.due("nothing burns: 0 and all the others", y.ask(), 1);
        y.hear(1, true);
        Check.due("60 coals", y.coals(0), 60);
        Check.due("none parts them", y.ask(), -1);
        CoalHoles z = Check.onTerrace("cold 0 0 0 0 0 0 0 0 0 0 0 1;");
        // Within 30 days at most 4 are burnt; the sooner, the fewer there are without.
        Check.due("5 without, behind 24 days", z.ask(), 24);
    }

    private static void rests() {
        // Both hold (3) rests when both >= gets; one alone (1, 2) when loses is 0 and gets >= both; none (0) always.
        for (int both = 0; both <= 9; both++) {
            // A new object for each: 512 calls are promised of one.
            CoalHoles x = new CoalHoles();
            for (int loses = 0; loses <= 9; loses++) {
                for (int gets = 0; gets <= 9; gets++) {
                    boolean isAlone = loses == 0 && gets >= both;
                    boolean[] is = {true, isAlone, isAlone, both >= gets};
                    int many = 0;
                    for (int choices = 0; choices < 4; choices++) {
                        if (is[choices]) {
                            Check.due("rests(" + both + ", " + loses + ", " + gets + ", " + many + ")",
                                Check.rests(x, both, loses, gets, many), choices);
                            many++;
                        }
                    }
                    Check.due("how many", Check.rests(x, both, loses, gets, -1), many);
                    Check.due("none such", Check.rests(x, both, loses, gets, many), Check.THROWN);
                }
            }
        }
        int[][] wrong = {{-1, 0, 0, -1}, {10, 0, 0, -1}, {0, -1, 0, -1}, {0, 10, 0, -1}, {0, 0, -1, -1}, {0, 0, 10, -1},
            {0, 0, 0, -2}, {0, 0, 0, 4}, {0, 0, 0, Integer.MAX_VALUE}, {0, 0, 0, Integer.MIN_VALUE},
            {Integer.MIN_VALUE, 0, 0, 0}};
        CoalHoles y = new CoalHoles();
        for (int[] w : wrong) {
            Check.due("rests(" + w[0] + ", " + w[1] + ", " + w[2] + ", " + w[3] + ")",
                Check.rests(y, w[0], w[1], w[2], w[3]), Check.THROWN);
        }
    }
}

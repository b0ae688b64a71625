/** Promises 14 to 18, 22 and 26: what will be, days going by. */
public final class ForesightTest {
    public static void main(String[] args) {
        lasts();
        safe();
        refuge();
        sacks();
        sacksEdges();
        lodging();
        lodgingRows();
        line();
        colder();
        Check.end();
    }

    private static void lasts() {
        CoalHoles x = Check.onTerrace("hole a flag 1 coal 10 burns 2;hole b flag 1 coal 0 burns 1;"
            + "hole c flag 1 coal 5 burns 0;hole d flag 1 coal 33 burns 1;hole e flag 1 coal 34 burns 1;cold 0 0 1;");
        Check.due("five colds of three days", x.lasts(0), 15);
        Check.due("it has none", x.lasts(1), 0);
        Check.due("for ever", x.lasts(2), -1);
        Check.due("99", x.lasts(3), 99);
        Check.due("102", x.lasts(4), -1);
        x.day();
        Check.due("behind a day", x.lasts(0), 14);
        Check.due("behind a day", x.lasts(3), 98);
        x.day();
        x.day();
        Check.due("99 again", x.lasts(4), 99);
        Check.due("lasts(5)", x.lasts(5), -1);
        Check.due("lasts(-1)", x.lasts(-1), -1);
        Check.due("lasts(MIN)", x.lasts(Integer.MIN_VALUE), -1);
    }

    private static void safe() {
        CoalHoles x = Check.onTerrace("hole a flag 1 coal 10 burns 3;hole b flag 1 coal 9 burns 0;"
            + "guest p plain flag 1;guest w wanted flag 1;guest k cat flag 1;guest e envoy flag 1;");
        Check.due("in the street", x.safe(0), -1);
        x.down(0, 0);
        x.down(1, 0);
        x.down(2, 0);
        x.down(3, 1);
        Check.due("plain", x.safe(0), 4);
        Check.due("wanted", x.safe(1), 4);
        Check.due("a cat, for ever", x.safe(2), -1);
        Check.due("envoy, burns none", x.safe(3), -1);
        x.day();
        Check.due("a day less", x.safe(0), 3);
        Check.due("safe(4)", x.safe(4), -1);
        Check.due("safe(-1)", x.safe(-1), -1);
        Check.due("safe(MIN)", x.safe(Integer.MIN_VALUE), -1);
    }

    private static void refuge() {
        CoalHoles x = Check.onTerrace("hole a flag 1 coal 10 burns 5;hole b flag 1 coal 10 burns 1;"
            + "hole c flag 2 coal 20 burns 2;hole d flag 3 coal 5 burns 0;hole e flag 3 coal 0 burns 0;"
            + "guest p plain flag 1;guest w wanted flag 2;guest k cat flag 1;guest q plain flag 3;guest z envoy flag 4;"
            + "takes same or left=20;");
        Check.due("b and c alike: the first", x.refuge(0), 1);
        Check.due("its flag", x.refuge(1), 2);
        Check.due("a cat, for ever anywhere", x.refuge(2), 0);
        Check.due("for ever is the longest", x.refuge(3), 3);
        Check.due("an envoy", x.refuge(4), 3);
        x.down(0, 0);
        Check.due("not in the street", x.refuge(0), -1);
        x.day();
        Check.due("seized", x.refuge(1), -1);
        x.up(0);
        Check.due("b still", x.refuge(0), 1);
        x.day();
        Check.due("b still", x.refuge(0), 1);
        Check.due("refuge(5)", x.refuge(5), -1);
        Check.due("refuge(-1)", x.refuge(-1), -1);
        Check.due("refuge(MIN)", x.refuge(Integer.MIN_VALUE), -1);
        CoalHoles y = Check.onTerrace("hole a flag 1 coal 32 burns 1;hole b flag 1 coal 33 burns 1;"
            + "hole c flag 1 coal 34 burns 1;hole d flag 1 coal 9 burns 0;guest p plain flag 1;cold 0 0 1;takes left<34;");
        Check.due("for ever is longer than 99", y.refuge(0), 3);
        CoalHoles z = Check.onTerrace("hole a flag 1 coal 32 burns 1;hole b flag 1 coal 33 burns 1;"
            + "hole c flag 1 coal 34 burns 1;hole d flag 1 coal 9 burns 0;guest p plain flag 1;cold 0 0 1;");
        Check.due("SAFE is told up to 99 alone: the first beyond", z.refuge(0), 2);
        Check.due("none takes him", Check.onTerrace("hole a flag 1 coal 9 burns 1;guest p plain flag 1;takes 0;")
            .refuge(0), -1);
    }

    private static void sacks() {
        CoalHoles x = Check.onTerrace("hole a flag 1 coal 10 burns 2;hole b flag 1 coal 3 burns 1;"
            + "hole c flag 1 coal 1 burns 9;guest v wanted flag 1;guest w wanted flag 1;guest p plain flag 1;sack 4;");
        Check.due("one is in the street", x.sacks(1, -1), -2);
        Check.due("one is in the street", x.sacks(1, 0), -2);
        x.down(0, 0);
        x.down(1, 1);
        x.down(2, 2);
        int[][] due = {{2, 0, 0, 0}, {3, 1, 0, 1}, {4, 1, 0, 1}, {5, 2, 1, 1}, {6, 2, 1, 1}, {7, 4, 2, 2},
            {8, 4, 2, 2}, {9, 5, 3, 2}, {10, 5, 3, 2}, {11, -2, -2, -2}, {30, -2, -2, -2}};
        for (int[] row : due) {
            Check.due("sacks(" + row[0] + ", NONE)", x.sacks(row[0], -1), row[1]);
            Check.due("sacks(" + row[0] + ", 0)", x.sacks(row[0], 0), row[2]);
            Check.due("sacks(" + row[0] + ", 1)", x.sacks(row[0], 1), row[3]);
            Check.due("sacks(" + row[0] + ", 2)", x.sacks(row[0], 2), row[1] < 0 ? -2 : 0);
        }
        int[][] wrong = {{0, -1}, {31, -1}, {2, -2}, {2, 3}, {Integer.MIN_VALUE, 0}, {2, Integer.MAX_VALUE}};
        for (int[] w : wrong) {
            Check.due("sacks(" + w[0] + ", " + w[1] + ")", x.sacks(w[0], w[1]), -2);
        }
        Check.due("nothing is brought", x.count(8), 0);
        Check.due("coal", x.hole(0, 1), 10);
    }

    private static void sacksEdges() {
        CoalHoles x = Check.onTerrace("hole a flag 1 coal 60 burns 4;guest v wanted flag 1;guest w wanted flag 1;sack 20;");
        x.down(1, 0);
        x.day();
        Check.due("v is seized; nobody more", x.sacks(13, -1), 0);
        Check.due("56 are 14 days", x.sacks(14, -1), 1);
        Check.due("99 at most: 24 days", x.sacks(24, -1), 3);
        Check.due("99 at most: not 25 days", x.sacks(25, -1), -2);
        CoalHoles n = Check.onTerrace("guest p plain flag 1;");
        Check.due("no holes", n.sacks(30, -1), 0);
        Check.due("no holes", n.sacks(30, 0), -2);
    }

    private static void lodging() {
        CoalHoles x = Check.onTerrace("hole a flag 1 coal 12 burns 3;hole b flag 1 coal 4 burns 1;"
            + "guest p plain flag 1;guest v wanted flag 1;guest w wanted flag 1;guest k cat flag 1;takes inside<1;");
        // Behind 3 days both have coal; each takes one, and the cat.
        lodging(x, 3, new int[] {0, -1, 0, 1, 0});
        // Behind 4 days neither has: the wanted ones are seized anyway, the cat alone is in a hole then.
        lodging(x, 4, new int[] {2, 0, 1, -1, 0});
        x.down(1, 0);
        lodging(x, 3, new int[] {0, -1, -1, 1, 0});
        x.day();
        Check.due("w is seized", x.count(7), 4);
        lodging(x, 2, new int[] {1, 1, -1, -1, 0});
        lodging(x, 3, new int[] {2, 1, -1, -1, 0});
        int[][] wrong = {{0, -1}, {31, -1}, {1, -2}, {1, 4}, {Integer.MAX_VALUE, 0}, {1, Integer.MIN_VALUE}};
        for (int[] w : wrong) {
            Check.due("lodging(" + w[0] + ", " + w[1] + ")", x.lodging(w[0], w[1]), -2);
        }
        Check.due("nobody has gone", x.hole(0, 3) + x.hole(1, 3), 2);
    }

    private static void lodging(CoalHoles x, int days, int[] due) {
        for (int i = 0; i < due.length; i++) {
            Check.due("lodging(" + days + ", " + (i - 1) + ")", x.lodging(days, i - 1), due[i]);
        }
    }

    private static void lodgingRows() {
        // War keeps them apart; the fewest seized come ahead of the most in holes.
        CoalHoles x = Check.onTerrace("hole a flag 1 coal 9 burns 0;hole b flag 1 coal 3 burns 3;"
            + "guest p plain flag 1;guest q plain flag 1;guest w wanted flag 2;war 1 2;takes 1;");
        lodging(x, 1, new int[] {0, 1, 1, 0});
        // The one who stays comes last in a row: the first goes down, the second can't.
        CoalHoles y = Check.onTerrace("hole a flag 1 coal 9 burns 0;guest p plain flag 1;guest q plain flag 2;war 1 2;");
        lodging(y, 30, new int[] {0, 0, -1});
        // In holes then, not now: a hole that goes out counts for nothing, so the later one that lasts is taken.
        CoalHoles z = Check.onTerrace("hole a flag 1 coal 9 burns 9;hole b flag 1 coal 9 burns 0;guest p plain flag 1;");
        lodging(z, 1, new int[] {0, 1});
        CoalHoles n = Check.onTerrace("guest w wanted flag 1;guest k cat flag 1;");
        lodging(n, 1, new int[] {1, -1, -1});
    }

    private static void line() {
        CoalHoles x = Check.onTerrace("hole a flag 1 coal 30 burns 3;hole b flag 1 coal 30 burns 0;"
            + "guest p plain flag 1;guest q plain flag 2;guest r plain flag 3;guest k cat flag 2;war 1 2;takes 1;");
        Check.due("in the street", x.line(0, 1), -1);
        x.down(0, 0);
        Check.due("one of them", x.line(0, 1), -1);
        x.down(1, 0);
        x.down(2, 0);
        Check.due("30, 27, 24, 21, 18", x.line(0, 1), 4);
        Check.due("the other way", x.line(1, 0), 4);
        Check.due("not at war", x.line(0, 2), -1);
        Check.due("himself", x.line(0, 0), -1);
        for (int days = 3; days >= 0; days--) {
            x.day();
            Check.due("a day less", x.line(0, 1), days);
        }
        x.day();
        Check.due("now", x.line(0, 1), 0);
        x.down(3, 1);
        Check.due("not in one hole", x.line(0, 3), -1);
        Check.due("line(4, 0)", x.line(4, 0), -1);
        Check.due("line(0, 4)", x.line(0, 4), -1);
        Check.due("line(-1, 0)", x.line(-1, 0), -1);
        Check.due("line(MIN, MAX)", x.line(Integer.MIN_VALUE, Integer.MAX_VALUE), -1);
        x.up(0);
        x.down(0, 1);
        Check.due("for ever", x.line(0, 3), -1);
    }

    private static void colder() {
        CoalHoles x = Check.onTerrace("hole a flag 1 coal 12 burns 2;hole b flag 1 coal 5 burns 0;"
            + "guest v wanted flag 1;guest w wanted flag 1;guest p plain flag 1;cold 1 0;");
        Check.due("in the street", x.colder(1, 0), 3);
        x.down(1, 0);
        x.down(2, 0);
        x.day();
        Check.due("v is seized", x.count(7), 1);
        // 10 left; days of 0, 1, 0, 1 ..
        Check.due("4 burnt in 4", x.colder(4, 0), 1);
        Check.due("9 days: 8 burnt", x.colder(9, 0), 1);
        Check.due("10 days: 10 burnt", x.colder(10, 0), 3);
        Check.due("1 more: 2, 4, 2", x.colder(3, 1), 1);
        Check.due("1 more: 2, 4, 2, 4", x.colder(4, 1), 3);
        Check.due("3 more: 6", x.colder(1, 3), 1);
        Check.due("3 more: 6, 8", x.colder(2, 3), 3);
        int[][] wrong = {{0, 0}, {31, 0}, {1, -1}, {1, 4}, {Integer.MIN_VALUE, 0}, {1, Integer.MAX_VALUE}};
        for (int[] w : wrong) {
            Check.due("colder(" + w[0] + ", " + w[1] + ")", x.colder(w[0], w[1]), -1);
        }
        x.up(1);
        x.down(1, 1);
        Check.due("it burns none", x.colder(30, 3), 1);
        Check.due("as it was", x.hole(0, 1), 10);
    }
}

/** Promises 13 and 28: a winter that is told, judged, and winters by draws. */
public final class WinterTest {
    private static final String TERRACE = "hole a flag 1 coal 6 burns 2;hole b flag 2 coal 60 burns 0;wall a b;"
        + "guest p plain flag 1;guest w wanted flag 2;guest k cat flag 2;war 1 2;sack 5;";

    public static void main(String[] args) {
        judged();
        fromTheBeginning();
        draws();
        drawsChangeNothing();
        Check.end();
    }

    private static void judged(String winter, int cant, int seizing, int sacks) {
        CoalHoles x = Check.onTerrace(TERRACE);
        Check.due("winter " + winter, Check.winter(x, winter), 0);
        Check.due("judged(0) of " + winter, x.judged(0), cant);
        Check.due("judged(1) of " + winter, x.judged(1), seizing);
        Check.due("judged(2) of " + winter, x.judged(2), sacks);
        Check.due("judged(3)", x.judged(3), -2);
        Check.due("judged(-1)", x.judged(-1), -2);
        Check.due("nothing is done", x.count(3) + x.count(8) + x.count(11), 0);
    }

    private static void judged() {
        judged("", -1, -1, 0);
        judged("day;", -1, 0, 0);
        judged("down w a;day;day;", -1, -1, 0);
        judged("down w a;day;day;day;", -1, 3, 0);
        judged("down w a;bring a;day;day;day;day;day;day;", -1, 7, 1);
        judged("up w;down w a;down w b;day;", 0, -1, 0);
        judged("bring a;bring b;up k;bring a;day;", 2, 4, 3);
        judged("down w a;through w b;through w b;day;", 2, -1, 0);
        judged("down p a;down w a;down k a;day;", 1, 3, 0);
        judged("down w b;through w a;day;day;day;down w b;", 5, 4, 0);
        judged("down w b;day;day;day;day;day;up w;day;day;", -1, 7, 0);
    }

    private static void fromTheBeginning() {
        CoalHoles x = Check.onTerrace(TERRACE);
        x.down(1, 1);
        x.bring(0);
        x.day();
        Check.winter(x, "down w a;bring a;day;");
        Check.due("judged(0)", x.judged(0), -1);
        Check.due("judged(1)", x.judged(1), -1);
        Check.due("judged(2)", x.judged(2), 1);
        Check.due("as it was", x.guest(1, 2), 1);
        Check.due("as it was", x.count(3), 1);
        Check.due("as it was", x.count(8), 1);
    }

    private static void draws() {
        CoalHoles x = Check.onTerrace("hole a flag 1 coal 6 burns 2;guest w wanted flag 2;sack 5;");
        // One hole: every draw is 0.
        Check.due("goes down once", x.winters(0, 9, 0), 1);
        Check.due("nobody", x.winters(0, 9, 1), 0);
        Check.due("6 + 9 * (5 - 2)", x.winters(0, 9, 2), 33);
        Check.due("99 at most, ahead of the day", x.winters(1, 99, 2), 97);
        CoalHoles y = Check.onTerrace("hole a flag 1 coal 0 burns 0;hole b flag 1 coal 60 burns 0;"
            + "guest v wanted flag 2;sack 1;");
        // Seed 1: g 1103527590, 2524885223 mod 2^31 = 377401575; draws below 2: 16838, 5758 mod 2 = 0, 0.
        Check.due("to no coal: seized", y.winters(1, 1, 1), 1);
        Check.due("nobody went", y.winters(1, 1, 0), 0);
        Check.due("a sack all the same", y.winters(1, 1, 2), 61);
        CoalHoles n = Check.onTerrace("guest v wanted flag 2;");
        Check.due("no holes: nobody goes", n.winters(5, 3, 0), 0);
        Check.due("no holes: seized", n.winters(5, 3, 1), 1);
        Check.due("no holes: no coal", n.winters(5, 3, 2), 0);
        int[][] wrong = {{-1, 1, 0}, {10000, 1, 0}, {0, 0, 0}, {0, 100, 0}, {0, 1, -1}, {0, 1, 3},
            {Integer.MIN_VALUE, 1, 0}, {0, Integer.MIN_VALUE, 0}, {0, Integer.MAX_VALUE, 2}};
        for (int[] w : wrong) {
            Check.due("winters(" + w[0] + ", " + w[1] + ", " + w[2] + ")", x.winters(w[0], w[1], w[2]), -1);
        }
        Check.due("9999, 99", x.winters(9999, 99, 1), 0);
    }

    private static void drawsChangeNothing() {
        CoalHoles x = Check.onTerrace(TERRACE);
        x.down(1, 1);
        int first = x.winters(77, 40, 0);
        for (int what = 0; what < 3; what++) {
            x.winters(1234, 99, what);
        }
        Check.due("the same again", x.winters(77, 40, 0), first);
        Check.due("where", x.guest(1, 2), 1);
        Check.due("date", x.count(3), 0);
        Check.due("coal", x.count(5), 66);
        Check.due("brought", x.count(8), 0);
        Check.due("undo", x.count(11), 1);
    }
}

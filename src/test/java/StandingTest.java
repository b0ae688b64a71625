/** Promises 5, 6, 20, 21 and 30: how it stands with holes and guests; and the law, by whom a hole takes in. */
public final class StandingTest {
    private static final String TERRACE = "hole a flag 1 coal 20 burns 3;hole b flag 2 coal 19 burns 0;"
        + "hole c flag 3 coal 0 burns 9;wall a b;wall c b;"
        + "guest p plain flag 1;guest q plain flag 2;guest w wanted flag 2;guest e envoy flag 2;guest k cat flag 2;"
        + "war 1 2;sack 4;cold 1 3;";

    public static void main(String[] args) {
        holes();
        guests();
        takes();
        laws();
        catsBelow();
        full();
        pairs();
        counts();
        Check.end();
    }

    private static void holes() {
        CoalHoles x = Check.onTerrace(TERRACE);
        int[][] due = {{1, 20, 3, 0, 2, 31}, {2, 19, 0, 0, 5, 31}, {3, 0, 9, 0, 2, 16}};
        for (int hole = 0; hole < 3; hole++) {
            for (int what = 0; what < 6; what++) {
                Check.due("hole(" + hole + ", " + what + ")", x.hole(hole, what), due[hole][what]);
            }
            Check.due("hole(" + hole + ", 6)", x.hole(hole, 6), -1);
            Check.due("hole(" + hole + ", -1)", x.hole(hole, -1), -1);
        }
        Check.due("hole(3, 1)", x.hole(3, 1), -1);
        Check.due("hole(-1, 1)", x.hole(-1, 1), -1);
        Check.due("hole(MAX, 0)", x.hole(Integer.MAX_VALUE, 0), -1);
        Check.due("hole(MIN, 0)", x.hole(Integer.MIN_VALUE, 0), -1);
        x.down(4, 2);
        x.down(2, 0);
        Check.due("cat below", x.hole(2, 3), 16);
        Check.due("not those in it", x.hole(2, 5), 0);
        Check.due("not those in it", x.hole(0, 5), 27);
    }

    private static void guests() {
        CoalHoles x = Check.onTerrace(TERRACE);
        int[][] due = {{0, 1, -1, 0, 30}, {0, 2, -1, 0, 1}, {1, 2, -1, 0, 1}, {2, 2, -1, 0, 1}, {3, 2, -1, 0, 1}};
        for (int guest = 0; guest < 5; guest++) {
            for (int what = 0; what < 5; what++) {
                Check.due("guest(" + guest + ", " + what + ")", x.guest(guest, what), due[guest][what]);
            }
            Check.due("guest(" + guest + ", 5)", x.guest(guest, 5), -2);
            Check.due("guest(" + guest + ", -1)", x.guest(guest, -1), -2);
        }
        Check.due("guest(5, 0)", x.guest(5, 0), -2);
        Check.due("guest(-1, 0)", x.guest(-1, 0), -2);
        Check.due("guest(MIN, 2)", x.guest(Integer.MIN_VALUE, 2), -2);
        x.down(0, 0);
        x.down(1, 0);
        Check.due("where", x.guest(1, 2), 0);
        Check.due("foes below", x.guest(0, 4), 2);
        Check.due("foes below", x.guest(1, 4), 1);
        Check.due("none with him in the street", x.guest(4, 4), 0);
        x.day();
        Check.due("seized", x.guest(2, 3), 1);
        Check.due("the street", x.guest(2, 2), -1);
        x.up(0);
        Check.due("not seized ones", x.guest(0, 4), 24);
        Check.due("of a seized one", x.guest(2, 4), 0);
        Check.due("seized ones, too, would be taken", x.hole(1, 5) & 4, 4);
    }

    private static void takes() {
        CoalHoles x = Check.onTerrace(TERRACE);
        x.down(0, 0);
        Check.due("at war, 20 coal", x.hole(0, 5), 30);
        x.up(0);
        x.down(0, 1);
        Check.due("at war, 19 coal: cats alone", x.hole(1, 5), 16);
        x.bring(1);
        Check.due("at war, 23 coal", x.hole(1, 5), 30);
        x.undo();
        x.up(0);
        x.down(1, 1);
        x.down(2, 1);
        x.down(3, 1);
        Check.due("3 * 4 < 19, but for the foes", x.hole(1, 5), 16);
        x.bring(1);
        Check.due("3 * 4 < 23, and foes", x.hole(1, 5), 17);
        x.down(4, 1);
        Check.due("4 * 4 < 23", x.hole(1, 5), 1);
        CoalHoles y = Check.onTerrace("hole a flag 1 coal 4 burns 1;guest p plain flag 1;guest q plain flag 1;"
            + "guest e envoy flag 1;guest k cat flag 1;");
        y.down(0, 0);
        Check.due("1 * 4 < 4 is not so: envoy and cat", y.hole(0, 5), 12);
        Check.due("not by hand either", y.down(1, 0), false);
        Check.due("the envoy", y.down(2, 0), true);
        CoalHoles z = Check.onTerrace("hole a flag 1 coal 0 burns 1;guest e envoy flag 1;guest k cat flag 1;takes 1;");
        Check.due("no coal: no envoy", z.hole(0, 5), 2);
    }

    /** Whom a hole of 10 coal with a cat in it takes, on day 2, by a law: a plain one of its flag, one of another. */
    private static void law(String law, int due) {
        CoalHoles x = Check.onTerrace("hole a flag 7 coal 10 burns 0;guest k cat flag 0;guest p plain flag 7;"
            + "guest q plain flag 8;takes " + law + ";");
        x.down(0, 0);
        x.day();
        x.day();
        Check.due("takes " + law, x.hole(0, 5) >> 1, due);
    }

    private static void laws() {
        law("1", 3);
        law("0", 0);
        law("same", 1);
        law("not same", 2);
        law("left=10", 3);
        law("left<10", 0);
        law("inside=1", 3);
        law("date=2", 3);
        law("date<3 and same", 1);
        law("same or not same and 0", 0);
        law("0 and 0 or 1", 3);
        law("1 or 1 and 0", 0);
        law("2 and 4", 3);
        law("(2 and 4)=1", 3);
        law("(0 or 5)=1", 3);
        law("not 5=0", 3);
        law("not 0=1", 3);
        law("not not 7=1", 3);
        law("not same+1=1", 1);
        law("1+2*3=7", 3);
        law("(1+2)*3=9", 3);
        law("9-3-2=4", 3);
        law("9-(3-2)=8", 3);
        law("1-2", 3);
        law("1-2<0", 3);
        law("2*3-6", 0);
        law("1+1=2*1", 3);
        law("1=1+0*9 and 3<4", 3);
        law("9999*9999*9999<0", 3);
        law("256*256*256*256=0", 3);
        law("256*256*256*128<0", 3);
        law("256*256*256*128-1<0", 0);
        law("((same*5+left)-inside*6<date)or 3<left", 3);
        law("left-inside*4-date*3", 0);
    }

    /** A cat is one with whom others are at war, too; itself it is taken always. */
    private static void catsBelow() {
        CoalHoles x = Check.onTerrace("hole a flag 1 coal 9 burns 1;guest k cat flag 1;guest p plain flag 2;"
            + "guest e envoy flag 2;guest l cat flag 2;war 1 2;takes 1;");
        Check.due("all", x.hole(0, 5), 15);
        x.down(0, 0);
        Check.due("the cat's foes", x.hole(0, 5), 8);
        Check.due("envoy at war", x.down(2, 0), false);
        Check.due("cat at war", x.down(3, 0), true);
        Check.due("line", x.line(0, 3), 0);
    }

    private static void full() {
        CoalHoles x = Check.onTerrace("hole a flag 1 coal 9 burns 1;hole b flag 2 coal 9 burns 0;"
            + "hole c flag 3 coal 0 burns 0;guest p plain flag 1;guest w wanted flag 2;takes same;");
        Check.due("c takes none", x.full(), 4);
        x.down(0, 0);
        Check.due("a takes none of those in the street", x.full(), 5);
        x.day();
        Check.due("seized ones don't count: nobody is in the street", x.full(), 7);
        x.up(0);
        Check.due("full()", x.full(), 6);
        Check.due("no holes", Check.onTerrace("guest p plain flag 1;").full(), 0);
        Check.due("no guests", Check.onTerrace("hole a flag 1 coal 9 burns 1;").full(), 1);
    }

    private static void pairs() {
        Check.due("one against four", Check.onTerrace(TERRACE).pairs(), 4);
        Check.due("two and two, and one", Check.onTerrace("guest a cat flag 1;guest b cat flag 1;guest c plain flag 2;"
            + "guest d wanted flag 2;guest e envoy flag 3;war 1 2;war 3 2;war 8 9;").pairs(), 6);
        Check.due("peace", Check.onTerrace("guest a cat flag 1;guest b cat flag 2;war 1 3;").pairs(), 0);
        CoalHoles x = Check.onTerrace("hole h flag 1 coal 9 burns 1;guest w wanted flag 1;guest c cat flag 2;war 2 1;");
        x.down(1, 0);
        x.day();
        Check.due("seized ones, too", x.pairs(), 1);
    }

    private static void counts() {
        CoalHoles x = Check.onTerrace(TERRACE);
        x.down(0, 0);
        x.bring(0);
        x.bring(2);
        x.day();
        Check.winter(x, "day;up p;");
        x.hear(1, true);
        Check.feed(x, "abc");
        int[] due = {3, 5, 4, 1, 3, 21 + 19, 26, 4, 2, 2, 1, 4, 3};
        for (int what = 0; what < due.length; what++) {
            Check.due("count(" + what + ")", x.count(what), due[what]);
        }
        Check.due("count(13)", x.count(13), -1);
        Check.due("count(-1)", x.count(-1), -1);
        Check.due("count(MIN)", x.count(Integer.MIN_VALUE), -1);
        x.day();
        Check.due("cold again and again", x.count(4), 1);
    }
}

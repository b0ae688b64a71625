/** A full terrace: the fifth HOLE and the fifth GUEST in every call; and what one that was told ahead leaves behind: nothing. */
public final class EdgeFullTest {
    private static final String HOLES = "hole a flag 0 coal 11 burns 1;hole b flag 1 coal 12 burns 1;hole c flag 2 coal 13 burns 1;"
        + "hole d flag 3 coal 14 burns 1;hole e flag 9 coal 15 burns 1;";
    private static final String WALLS = "wall a b;wall b c;wall c d;wall d e;";
    private static final String GUESTS = "guest p plain flag 9;guest q wanted flag 3;guest r envoy flag 2;guest s cat flag 1;"
        + "guest t wanted flag 0;";

    public static void main(String[] args) {
        fifthStands();
        fifthGoes();
        fifthLasts();
        fifthSacks();
        fifthLodging();
        fifthLodgingSame();
        fifthWar();
        fifthInWinters();
        fifthUndoneAndMarked();
        fullMark();
        smallerBehindLarger();
        lodgingBehindLarger();
        lawBehindLaw();
        behindAFault();
        Check.end();
    }

    private static CoalHoles full(String end) {
        return Check.onTerrace(HOLES + WALLS + GUESTS + end);
    }

    private static void fifthStands() {
        Check.sentence("Promises 5, 6, 30", "of the fifth of five");
        CoalHoles x = full("war 0 9;takes 1;");
        Check.dueAt("hole(4, what)", Check.at(-1, 0, 1, 2, 3, 4, 5, 6), what -> x.hole(4, what), -1, 9, 15, 1, 0, 8, 31, -1);
        Check.dueAt("guest(4, what)", Check.at(-1, 0, 1, 2, 3, 4, 5), what -> x.guest(4, what), -2, 1, 0, -1, 0, 1, -2);
        Check.dueAt("hole(hole, 1)", Check.at(3, 4, 5), hole -> x.hole(hole, 1), 14, 15, -1);
        Check.dueAt("guest(guest, 1)", Check.at(3, 4, 5), guest -> x.guest(guest, 1), 1, 0, -2);
        Check.dueAt("count", Check.at(0, 1, 5, 6), x::count, 5, 5, 65, 31);
    }

    private static void fifthGoes() {
        Check.sentence("Promises 7 to 11", "the fifth goes, to the fifth");
        CoalHoles x = full("takes 1;sack 3;");
        Check.due("down(5, 4)", x.down(5, 4), false);
        Check.due("down(4, 5)", x.down(4, 5), false);
        Check.due("down(4, 4)", x.down(4, 4), true);
        Check.due("where", x.guest(4, 2), 4);
        Check.due("inside", x.hole(4, 3), 16);
        Check.due("street", x.count(6), 15);
        Check.due("not again", x.down(4, 3), false);
        Check.due("not beside", x.through(4, 2), false);
        Check.due("through(4, 5)", x.through(4, 5), false);
        Check.due("through(4, 3)", x.through(4, 3), true);
        Check.due("where", x.guest(4, 2), 3);
        Check.due("through(4, 4)", x.through(4, 4), true);
        Check.due("where", x.guest(4, 2), 4);
        Check.due("up(5)", x.up(5), false);
        Check.due("up(4)", x.up(4), true);
        Check.due("where", x.guest(4, 2), -1);
        Check.due("bring(5)", x.bring(5), -1);
        Check.due("bring(4)", x.bring(4), 18);
        Check.due("day()", x.day(), 2 + 16);
        Check.due("coal", x.hole(4, 1), 17);
        Check.due("coal of all", x.count(5), 10 + 11 + 12 + 13 + 17);
        Check.due("seized", x.guest(4, 3), 1);
    }

    private static void fifthLasts() {
        Check.sentence("Promises 14 to 16, 19, 20, 26", "of the fifth");
        CoalHoles x = full("takes 1;");
        Check.dueAt("lasts", Check.at(3, 4, 5), x::lasts, 14, 15, -1);
        Check.dueAt("refuge", Check.at(3, 4, 5), x::refuge, 0, 4, -1);
        x.down(4, 4);
        x.down(0, 3);
        Check.dueAt("safe", Check.at(-1, 0, 3, 4, 5), x::safe, -1, 14, -1, 15, -1);
        Check.dueAt("note(hole, 4)", Check.at(-1, 0, 1, 2, 3, 4, 5), hole -> x.note(hole, 4), -1, 4, 3, 2, 1, 0, -1);
        Check.dueAt("note(4, hole)", Check.at(-1, 0, 1, 2, 3, 4, 5), hole -> x.note(4, hole), -1, 4, 3, 2, 1, 0, -1);
        Check.dueAt("colder(days, 0)", Check.at(14, 15), days -> x.colder(days, 0), 2, 18);
        Check.dueAt("colder(days, 2)", Check.at(4, 5), days -> x.colder(days, 2), 2, 18);
        Check.due("full()", x.full(), 0);
        x.down(1, 0);
        x.down(2, 1);
        x.down(3, 2);
        Check.due("full()", x.full(), 31);
        Check.due("each is inside", x.hole(0, 3) + x.hole(1, 3) + x.hole(2, 3) + x.hole(3, 3) + x.hole(4, 3), 31);
    }

    private static void fifthSacks() {
        Check.sentence("Promise 17", "to the fifth");
        CoalHoles x = full("takes 1;sack 2;");
        x.down(4, 4);
        x.down(1, 3);
        Check.dueAt("sacks(13, what)", Check.at(-2, -1, 0, 1, 2, 3, 4, 5), what -> x.sacks(13, what), -2, 0, 0, 0, 0, 0, 0, -2);
        Check.dueAt("sacks(14, what)", Check.at(-2, -1, 0, 1, 2, 3, 4, 5), what -> x.sacks(14, what), -2, 1, 0, 0, 0, 1, 0, -2);
        Check.dueAt("sacks(15, what)", Check.at(-2, -1, 0, 1, 2, 3, 4, 5), what -> x.sacks(15, what), -2, 2, 0, 0, 0, 1, 1, -2);
        Check.dueAt("sacks(19, what)", Check.at(-2, -1, 0, 1, 2, 3, 4, 5), what -> x.sacks(19, what), -2, 6, 0, 0, 0, 3, 3, -2);
        Check.dueAt("sacks(20, what)", Check.at(-2, -1, 0, 1, 2, 3, 4, 5), what -> x.sacks(20, what),
            -2, -2, -2, -2, -2, -2, -2, -2);
        CoalHoles y = Check.onTerrace(HOLES + "guest t wanted flag 1;takes 1;sack 1;");
        for (int hole = 0; hole < 5; hole++) {
            y.down(0, hole);
            for (int many = 0; many <= 3; many++) {
                int days = 11 + hole + many - 1;
                Check.due("so many to the one, none to the others", y.sacks(days, hole), many);
                Check.due("how many", y.sacks(days, -1), many);
                Check.due("none to the one beside", y.sacks(days, (hole + 1) % 5), 0);
            }
            Check.due("by none", y.sacks(11 + hole + 3, -1), -2);
            y.up(0);
        }
    }

    private static void fifthLodging() {
        Check.sentence("Promise 18", "five go, to five");
        Check.lodgings(full("takes 1;"), 10, 0, 0, 0, 0, 0, 0);
        Check.lodgings(full("takes 1;"), 11, 0, 1, 1, 1, 0, 1);
        Check.lodgings(full("takes 1;"), 14, 0, 4, 4, 4, 0, 4);
        Check.lodgings(full("takes 1;"), 15, 2, 0, 0, 0, 0, 0);
        Check.lodgings(full("takes inside<1;"), 10, 0, 0, 1, 0, 0, 2);
        Check.lodgings(full("takes inside<1;"), 12, 0, 2, 3, 2, 0, 4);
        // The two that last are for the wanted ones; the envoy goes to the first of them, the plain one goes nowhere that lasts.
        Check.lodgings(full("takes inside<1;"), 13, 0, 0, 3, 3, 0, 4);
        Check.lodgings(full("takes inside<1;"), 14, 1, 0, 4, 4, 0, 1);
        CoalHoles x = full("takes inside<1;");
        x.down(1, 4);
        x.down(0, 3);
        Check.lodgings(x, 14, 1, -1, -1, 4, 0, 1);
        // The envoy may go in with another, so that the wanted one finds a hole with nobody in it.
        Check.lodgings(x, 12, 0, -1, -1, 3, 0, 2);
        Check.sentence("LODGING", "who is in a HOLE already goes nowhere, wherever he stands in the row");
        CoalHoles y = Check.onTerrace("hole a flag 1 coal 3 burns 1;hole b flag 1 coal 60 burns 1;guest p plain flag 1;"
            + "guest q plain flag 1;guest r plain flag 1;takes 1;");
        y.down(1, 1);
        y.down(2, 1);
        Check.lodgings(y, 2, 0, 0, -1, -1);
        Check.lodgings(y, 3, 0, 1, -1, -1);
        CoalHoles z = Check.onTerrace("hole a flag 1 coal 3 burns 1;hole b flag 1 coal 60 burns 1;guest e envoy flag 1;"
            + "guest k cat flag 1;takes 0;");
        Check.lodgings(z, 2, 0, 0, 0);
        Check.lodgings(z, 3, 0, 1, 0);
    }

    private static void fifthLodgingSame() {
        Check.sentence("LODGING, E", "same: of each of five its own HOLE, flag 0 as well as 9");
        String plain = "guest p plain flag 9;guest q plain flag 3;guest r wanted flag 2;guest s plain flag 1;guest t plain flag 0;";
        CoalHoles x = Check.onTerrace(HOLES + plain + "takes same;");
        Check.lodgings(x, 10, 0, 4, 3, 2, 1, 0);
        CoalHoles y = Check.onTerrace(HOLES + plain + "takes not same and inside<1;");
        Check.lodgings(y, 10, 0, 0, 1, 3, 2, 4);
        CoalHoles z = Check.onTerrace(HOLES + plain + "takes same*2+inside=2 or inside+date=left;");
        Check.lodgings(z, 10, 0, 4, 3, 2, 1, 0);
        Check.sentence("LODGING, E", "as the law is on that day");
        CoalHoles w = Check.onTerrace("hole a flag 1 coal 40 burns 0;hole b flag 2 coal 40 burns 0;hole c flag 3 coal 40 burns 0;"
            + "guest p plain flag 1;guest q plain flag 2;guest r plain flag 9;takes date=0 and same or (date=1 and not same);");
        Check.lodgings(w, 1, 0, 0, 1, -1);
        w.day();
        Check.lodgings(w, 1, 0, 1, 0, 0);
        w.day();
        Check.lodgings(w, 1, 0, -1, -1, -1);
        w.undo();
        w.undo();
        Check.lodgings(w, 1, 0, 0, 1, -1);
    }

    private static void fifthWar() {
        Check.sentence("Promises 21, 22, 6", "of the fourth and the fifth, in the fifth");
        CoalHoles x = full("war 1 0;war 9 3;sack 9;takes 1;");
        Check.due("pairs()", x.pairs(), 2);
        Check.due("foes", x.guest(4, 4), 8);
        Check.due("foes", x.guest(0, 4), 2);
        x.down(4, 4);
        x.down(3, 4);
        Check.due("foes", x.guest(4, 4), 8);
        Check.due("foes", x.guest(3, 4), 16);
        Check.due("line(3, 4)", x.line(3, 4), 0);
        x.bring(4);
        Check.due("24: behind 5 days", x.line(3, 4), 5);
        Check.due("24: behind 5 days", x.line(4, 3), 5);
        Check.due("line(4, 5)", x.line(4, 5), -1);
        Check.due("line(4, 2)", x.line(4, 2), -1);
    }

    private static void fifthInWinters() {
        Check.sentence("Promises 4, 13, 28", "the fifth in a winter told, and by draws");
        CoalHoles x = full("takes 1;");
        Check.due("winter", Check.winter(x, "down t e;down q e;through t d;bring e;up t;day;down p e;"), 0);
        Check.dueAt("judged", Check.at(0, 1, 2), x::judged, -1, 5, 1);
        Check.due("winter", Check.winter(x, "down t e;down q e;" + "day;".repeat(14) + "down t e;day;"), 0);
        Check.dueAt("judged", Check.at(0, 1, 2), x::judged, 16, 17, 0);
        CoalHoles y = Check.onTerrace("hole a flag 1 coal 0 burns 0;hole b flag 1 coal 0 burns 0;hole c flag 1 coal 0 burns 0;"
            + "hole d flag 1 coal 0 burns 0;hole e flag 1 coal 0 burns 9;guest p plain flag 1;guest q plain flag 1;guest r plain flag 1;"
            + "guest s plain flag 1;guest t wanted flag 1;takes 0;sack 1;");
        Check.due("the fifth is seized", y.winters(3, 1, 1), 16);
        long g = 3;
        int coal = 0;
        for (int draw = 1; draw <= 6 * 20; draw++) {
            g = (g * 1103515245L + 12345L) % 2147483648L;
            // Each sixth draw is the sack's; what falls to the fifth hole is burnt.
            coal += draw % 6 == 0 && g / 65536 % 5 < 4 ? 1 : 0;
        }
        Check.due("coal of all", y.winters(3, 20, 2), coal);
    }

    private static void fifthUndoneAndMarked() {
        Check.sentence("Promises 12, 29", "the fifth is undone, and marked");
        CoalHoles x = full("takes 1;sack 4;");
        x.down(4, 4);
        x.bring(4);
        x.mark(3, false);
        x.day();
        x.up(4);
        x.day();
        Check.due("seized", x.count(7), 18);
        Check.due("coal", x.hole(4, 1), 17);
        x.undo();
        Check.due("seized", x.count(7), 2);
        Check.due("coal", x.hole(4, 1), 18);
        x.undo();
        Check.due("where", x.guest(4, 2), 4);
        x.undo();
        x.undo();
        Check.due("coal", x.hole(4, 1), 15);
        x.undo();
        Check.due("where", x.guest(4, 2), -1);
        Check.due("undo()", x.undo(), false);
        Check.due("mark(3, true)", x.mark(3, true), true);
        Check.due("where", x.guest(4, 2), 4);
        Check.due("inside", x.hole(4, 3), 16);
        Check.due("coal", x.hole(4, 1), 19);
    }

    private static void fullMark() {
        Check.sentence("MARKS", "all 40 lines of the WINTER, all 8 that are HEARD");
        CoalHoles x = full("takes 1;");
        String told = "down p a;up p;down q b;through q c;" + "bring d;".repeat(34) + "up q;up t;";
        Check.due("winter", Check.winter(x, told), 0);
        Check.dueAt("judged", Check.at(0, 1, 2), x::judged, 39, -1, 34);
        for (int i = 0; i < 7; i++) {
            x.hear(i == 0 ? 9 : 1, true);
        }
        x.hear(11, false);
        Check.dueAt("coals", Check.at(0, 1, 2), x::coals, 4, 19, 22);
        x.mark(0, false);
        Check.due("another", Check.winter(x, "day;".repeat(40)), 0);
        Check.due("judged(1)", x.judged(1), 0);
        x.mark(1, false);
        Check.due("another", Check.winter(x, "down t e;down q e;up p;through t a;" + "bring a;".repeat(36)), 0);
        Check.dueAt("judged", Check.at(0, 1, 2), x::judged, 2, -1, 36);
        x.mark(2, false);
        x.mark(1, true);
        Check.dueAt("judged", Check.at(0, 1, 2), x::judged, -1, 0, 0);
        x.mark(0, true);
        Check.dueAt("judged", Check.at(0, 1, 2), x::judged, 39, -1, 34);
        Check.due("8 there are", x.hear(1, true), false);
        x.mark(2, true);
        Check.dueAt("judged", Check.at(0, 1, 2), x::judged, 2, -1, 36);
        Check.dueAt("coals", Check.at(0, 1, 2), x::coals, 4, 19, 22);
        CoalHoles y = new CoalHoles();
        y.mark(0, false);
        // The first of the 8 tells the most.
        for (int i = 8; i >= 1; i--) {
            y.hear(i, true);
        }
        y.mark(1, false);
        y.mark(0, true);
        for (int i = 30; i > 22; i--) {
            y.hear(i, false);
        }
        Check.dueAt("coals", Check.at(0, 1, 2), y::coals, 47, 0, 46);
        y.mark(1, true);
        Check.dueAt("coals", Check.at(0, 1, 2), y::coals, 44, 17, 60);
        Check.due("count(10)", y.count(10), 8);
    }

    private static void smallerBehindLarger() {
        Check.sentence("TERRACE", "is the TERRACE from then on: of those told ahead nothing is left");
        String large = HOLES + WALLS + "wall e a;wall a c;" + GUESTS + "war 0 1;war 9 8;war 0 9;war 1 3;cold 3 2 3;sack 20;takes 0;";
        CoalHoles x = new CoalHoles();
        for (int i = 0; i < 3; i++) {
            Check.due("a large one", Check.terrace(x, large), 0);
            Check.due("another", Check.terrace(x, large), 0);
            Check.due("one of no walls, wars, cold, sack, law", Check.terrace(x, HOLES
                + "guest p plain flag 0;guest q plain flag 1;guest r plain flag 9;guest s plain flag 8;guest t wanted flag 3;"), 0);
            Check.dueAt("no walls", Check.at(0, 1, 2, 3, 4), hole -> x.hole(hole, 4), 0, 0, 0, 0, 0);
            Check.due("no wars", x.pairs(), 0);
            Check.dueAt("no foes", Check.at(0, 1, 2, 3, 4), guest -> x.guest(guest, 4), 0, 0, 0, 0, 0);
            Check.due("no law", x.hole(0, 5), 31);
            Check.dueAt("sack, cold", Check.at(2, 4), x::count, 5, 1);
            x.day();
            Check.due("cold", x.count(4), 1);
            Check.due("kinds", x.count(7), 16);
            Check.due("a small one", Check.terrace(x, "hole q flag 1 coal 2 burns 0;guest a plain flag 1;"), 0);
            Check.dueAt("count", Check.at(0, 1, 2, 4, 5, 6), x::count, 1, 1, 5, 1, 2, 1);
            Check.due("hole(1, 1)", x.hole(1, 1), -1);
            Check.due("a is a guest now", Check.winter(x, "down a q;"), 0);
            Check.due("b is nobody", Check.winter(x, "bring b;"), Check.fault(2, 6));
            Check.due("lines that can be told once can be told once again", Check.terrace(x, "cold 1 2;sack 3;takes 1;war 0 1;"), 0);
            Check.dueAt("sack, cold", Check.at(2, 4), x::count, 3, 1);
        }
    }

    private static void lodgingBehindLarger() {
        Check.sentence("LODGING", "of this TERRACE, whatever was asked of another");
        CoalHoles x = Check.onTerrace("guest p plain flag 1;guest q wanted flag 1;guest r wanted flag 1;guest s plain flag 1;"
            + "guest t wanted flag 1;");
        Check.lodgings(x, 1, 3, -1, -1, -1, -1, -1);
        Check.due("a smaller one", Check.terrace(x, "hole a flag 1 coal 3 burns 1;hole b flag 1 coal 60 burns 1;guest p plain flag 1;"), 0);
        Check.lodgings(x, 3, 0, 1);
        Check.lodgings(x, 2, 0, 0);
        Check.due("one of nobody", Check.terrace(x, "hole a flag 1 coal 3 burns 1;"), 0);
        Check.lodgings(x, 3, 0);
        Check.due("a larger one", Check.terrace(x, HOLES + GUESTS + "takes 1;"), 0);
        Check.lodgings(x, 14, 0, 4, 4, 4, 0, 4);
        Check.due("another law", Check.terrace(x, HOLES + GUESTS + "takes 0;"), 0);
        Check.lodgings(x, 14, 2, -1, -1, 4, 0, -1);
        Check.due("same alone", Check.terrace(x, HOLES + GUESTS + "takes same;"), 0);
        Check.lodgings(x, 10, 0, 4, 3, 0, 0, 0);
    }

    private static void lawBehindLaw() {
        Check.sentence("TERRACE, E", "a law that was asked leaves nothing for the law that is told next");
        CoalHoles x = new CoalHoles();
        // Coal that is the number of a sign: 40 to 45 are ( ) * + , - and 59 to 60 are ; <
        for (int coal : new int[] {40, 41, 42, 43, 44, 45, 59, 60, 42}) {
            Check.due("told", Check.terrace(x, "hole a flag 1 coal " + coal + " burns 0;guest p plain flag 1;takes left;"), 0);
            Check.due("takes left", x.hole(0, 5), 1);
            Check.due("told", Check.terrace(x, "hole a flag 1 coal " + coal + " burns 0;guest p plain flag 1;takes left-" + coal + ";"), 0);
            Check.due("takes left less all of it", x.hole(0, 5), 0);
        }
    }

    private static void behindAFault() {
        Check.sentence("Promises 3, 4", "a FAULT leaves nothing behind for what is read next");
        String[] wrong = {"takes ((((1", "takes not not not", "takes 1 or (1<(1+(1*(1", "takes 1<", "hole a flag 1 coal 1 burns 1;hole",
            "guest a cat flag 1;guest a", "wall", "cold 1 2 3", "cold 1;cold", "sack 4;sack", "takes 1;takes", "war 1 2;war 2 1;",
            HOLES + WALLS + "wall a b;", GUESTS + "guest", "takes (((((1)))));"};
        for (String text : wrong) {
            CoalHoles x = new CoalHoles();
            for (int i = 0; i < 2; i++) {
                Check.due("a fault in " + text, Check.terrace(x, text) != 0, true);
                Check.due("told behind " + text, Check.terrace(x, "takes ((((1))));cold 2;sack 9;war 1 2;" + HOLES + WALLS + GUESTS), 0);
                Check.due("a fault again in " + text, Check.terrace(x, text) != 0, true);
                Check.due("told again", Check.terrace(x, "takes not not not not 0;sack 8;war 2 1;" + HOLES + GUESTS), 0);
                Check.due("the law", x.hole(4, 5), 4 + 8);
                Check.due("no walls", x.hole(4, 4), 0);
                Check.dueAt("count", Check.at(0, 1, 2, 4), x::count, 5, 5, 8, 1);
                Check.due("a winter's fault", Check.winter(x, "day;day;up"), Check.fault(1, 10));
                Check.due("40 lines", Check.winter(x, "day;".repeat(40)), 0);
            }
        }
    }
}

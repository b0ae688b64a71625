/** Promises 3 and 4: terraces and winters are read, or refused with the fault of the first wrong token. */
public final class TellingTest {
    private static final String HOLES = "hole a flag 0 coal 1 burns 0;hole b flag 0 coal 1 burns 0;"
        + "hole c flag 0 coal 1 burns 0;hole d flag 0 coal 1 burns 0;hole e flag 0 coal 1 burns 0;";
    private static final String GUESTS = "guest v plain flag 0;guest w wanted flag 0;guest x envoy flag 0;"
        + "guest y cat flag 0;guest z cat flag 9;";

    public static void main(String[] args) {
        tokens();
        cantStand();
        notTold();
        toldAlready();
        numbers();
        tooMany();
        laws();
        stays();
        begins();
        winters();
        winterFaults();
        Check.end();
    }

    private static void terrace(String text, int kind, int place) {
        Check.due("terrace of " + text, Check.terrace(new CoalHoles(), text), Check.fault(kind, place));
    }

    /** The last token of the text, found by its own words, is the wrong one. */
    private static void wrong(int kind, String ahead, String token, String behind) {
        terrace(ahead + token + behind, kind, ahead.length());
    }

    private static void tokens() {
        terrace("", 0, 0);
        terrace(" \n ", 0, 0);
        terrace("hole a flag 1coal 2burns 3;", 0, 0);
        terrace("hole a flag1coal2burns3;wall a", 1, 30);
        terrace("\n\nhole\na flag 01 coal 0060 burns 0009 ;\n", 0, 0);
        terrace("hole abcdefgh flag 1 coal 2 burns 3;", 0, 0);
        wrong(1, "hole ", "abcdefghi", " flag 1 coal 2 burns 3;");
        wrong(1, "hole a flag ", "00001", " coal 2 burns 3;");
        wrong(1, "hole ", "A", " flag 1 coal 2 burns 3;");
        wrong(1, "hole a", "'", " flag 1 coal 2 burns 3;");
        wrong(1, "hole a flag 1 coal 2 burns 3", ":", "");
        wrong(1, "hole a flag 1 coal 2 burns 3", ",", "");
        wrong(1, "hole a flag 1 coal 2 burns 3", ">", "");
        wrong(1, "hole ", "7", "a flag 1 coal 2 burns 3;");
        terrace("hole left flag 1 coal 2 burns 3;guest date cat flag 1;wall left", 1, 63);
        for (String fact : new String[] {"left", "inside", "same", "date"}) {
            terrace("hole " + fact + " flag 1 coal 2 burns 3;", 0, 0);
        }
    }

    private static void cantStand() {
        for (String word : ("hole flag coal burns wall guest war cold sack takes down up through bring day plain "
            + "wanted envoy cat not and or").split(" ")) {
            wrong(1, "hole ", word, " flag 1 coal 2 burns 3;");
            wrong(1, "guest ", word, " plain flag 1;");
            wrong(1, HOLES + "wall a ", word, ";");
        }
        wrong(1, "", ";", "");
        wrong(1, "", "day", ";");
        wrong(1, "", "a", ";");
        wrong(1, "sack 5", "", "");
        wrong(1, "sack 5 ", "", "");
        wrong(1, "sack ", ";", "");
        wrong(1, "cold ", ";", "");
        wrong(1, "cold 1 ", "a", ";");
        wrong(1, "war 1 ", ";", "");
        wrong(1, "war 1 2 ", "3", ";");
        wrong(1, "sack 1 ", "2", ";");
        wrong(1, "hole a ", "coal", " 1 burns 2 flag 1;");
        wrong(1, "hole a flag 1 coal 2 burns 3 ", "4", ";");
        wrong(1, "hole a flag 1 coal ", "-", "2 burns 3;");
        wrong(1, "guest a ", "flag", " 1;");
        wrong(1, "guest a ", "king", " flag 1;");
        wrong(1, "guest a plain ", "1", ";");
        wrong(1, "hole a flag 1 coal 1 burns 1; hole", "", "");
    }

    private static void notTold() {
        wrong(2, "wall ", "a", " b;");
        wrong(2, HOLES + "wall ", "f", " a;");
        wrong(2, HOLES + "wall a ", "f", ";");
        wrong(2, HOLES + GUESTS + "wall ", "v", " a;");
        wrong(2, HOLES + GUESTS + "wall a ", "v", ";");
        wrong(2, "hole a flag 1 coal 1 burns 1;wall a ", "b", ";hole b flag 1 coal 1 burns 1;");
    }

    private static void toldAlready() {
        wrong(3, "hole a flag 1 coal 1 burns 1;hole ", "a", " flag 1 coal 1 burns 1;");
        wrong(3, "guest a cat flag 1;hole ", "a", " flag 1 coal 1 burns 1;");
        wrong(3, "hole a flag 1 coal 1 burns 1;guest ", "a", " king flag 1;");
        wrong(3, "guest a cat flag 1;guest ", "a", " cat flag 1;");
        wrong(3, HOLES + "wall a ", "a", ";");
        wrong(3, HOLES + "wall a b;wall a ", "b", ";");
        wrong(3, HOLES + "wall a b;wall b ", "a", ";");
        wrong(3, "war 1 ", "1", ";");
        wrong(3, "war 1 2;war 1 ", "2", ";");
        wrong(3, "war 1 2;war 2 ", "1", ";");
        wrong(3, "cold 1;", "cold", " 9;");
        wrong(3, "sack 1;", "sack", ";");
        wrong(3, "takes 1;", "takes", " 1;");
        wrong(3, "takes 0;", "takes", " 1;");
        terrace(HOLES + "wall a b;wall a c;wall c b;war 0 1;war 1 2;war 2 0;", 0, 0);
    }

    private static void numbers() {
        wrong(4, "hole a flag ", "10", " coal 60 burns 9;");
        wrong(4, "hole a flag 9 coal ", "61", " burns 9;");
        wrong(4, "hole a flag 9 coal 60 burns ", "10", ";");
        wrong(4, "guest a cat flag ", "10", ";");
        wrong(4, "war ", "10", " 10;");
        wrong(4, "war 9 ", "10", ";");
        wrong(4, "cold ", "4", ";");
        wrong(4, "cold 3 0 ", "4", ";");
        wrong(4, "sack ", "0", ";");
        wrong(4, "sack ", "21", ";");
        wrong(4, "sack ", "9999", ";");
        terrace("hole a flag 9 coal 60 burns 9;guest b cat flag 9;war 0 9;cold 0 3;sack 20;", 0, 0);
    }

    private static void tooMany() {
        terrace(HOLES + GUESTS, 0, 0);
        wrong(5, HOLES, "hole", " a;");
        wrong(5, GUESTS, "guest", " a;");
        wrong(5, HOLES, "hole", "");
        terrace("cold 0 1 2 3 0 1 2 3 0 1 2 3;", 0, 0);
        wrong(5, "cold 0 1 2 3 0 1 2 3 0 1 2 3 ", "0", ";");
        wrong(4, "cold 0 1 2 3 0 1 2 3 0 1 2 3 ", "4", ";");
        wrong(1, "cold 0 1 2 3 0 1 2 3 0 1 2 3 ", "a", ";");
    }

    private static void laws() {
        wrong(1, "takes ", ";", "");
        wrong(1, "takes ", "coal", ";");
        wrong(1, "takes ", "a", ";");
        wrong(1, "takes ", "-", "1;");
        wrong(1, "takes ", "and", " 1;");
        wrong(1, "takes 1 ", "2", ";");
        wrong(1, "takes 1 ", "left", ";");
        wrong(1, "takes 1 ", "not", " 2;");
        wrong(1, "takes 1 ", "(", "2);");
        wrong(1, "takes 1 + ", ";", "");
        wrong(1, "takes 1 + ", ")", ";");
        wrong(1, "takes (", ")", ";");
        wrong(1, "takes (1", ";", "");
        wrong(1, "takes 1", ")", ";");
        wrong(1, "takes (1)", ")", ";");
        wrong(1, "takes 1 < 2 ", "<", " 3;");
        wrong(1, "takes 1 = 2 + 3 * 4 ", "=", " 3;");
        wrong(1, "takes 0 or 1 < 2 ", "=", " 3;");
        wrong(1, "takes (1 < 2) < 3 ", "<", "4;");
        terrace("takes (1 < 2) < (3 = 4) and 1 < 2 or 1 = 2;", 0, 0);
        terrace("takes 9999 * 9999;", 0, 0);
        wrong(1, "takes ", "10000", ";");
        terrace("takes ((((1))));", 0, 0);
        wrong(5, "takes (((((", "1", ")))));");
        wrong(5, "takes (((((", "(", "1))))));");
        wrong(5, "takes (((((", "not", " 1)))));");
        wrong(1, "takes (((((", "coal", ")))));");
        wrong(1, "takes (((((", ")", ")))));");
        terrace("takes not not not not 1;", 0, 0);
        wrong(5, "takes not not not not not ", "left", ";");
        wrong(5, "takes not not not not not ", "not", " left;");
        wrong(5, "takes not ( not ( not ", "1", "));");
        terrace("takes not ( not ( 1 ) ) + ((((left)))) * not (((same)));", 0, 0);
        terrace("takes (not (not 1) + not not not 1);", 0, 0);
        terrace("takes (1 + not (1 + not 1));", 0, 0);
        wrong(5, "takes (1 + not (1 + not (", "1", ")));");
        wrong(5, "takes (not 1 + not (1 + not not ", "1", "));");
    }

    private static void stays() {
        CoalHoles x = Check.onTerrace(HOLES + GUESTS + "wall a b;war 0 9;cold 2;sack 3;takes 1;");
        Check.due("winter", Check.winter(x, "day;day;"), 0);
        x.down(0, 0);
        x.bring(1);
        x.hear(2, true);
        x.mark(1, false);
        Check.due("a fault", Check.terrace(x, "hole q flag 1 coal 9 burns 1;war 1 2;cold 1;sack 9;takes 0;sack"),
            Check.fault(3, 59));
        int[] counts = {5, 5, 3, 0, 2, 8, 30, 0, 1, 2, 1, 2, 0};
        for (int what = 0; what < counts.length; what++) {
            Check.due("all stays: count(" + what + ")", x.count(what), counts[what]);
        }
        Check.due("hole(0, 3)", x.hole(0, 3), 1);
        Check.due("hole(0, 4)", x.hole(0, 4), 2);
        Check.due("hole(1, 5)", x.hole(1, 5), 31);
        Check.due("pairs()", x.pairs(), 4);
        Check.due("a winter's fault", Check.winter(x, "day;day;day;up a;"), Check.fault(2, 15));
        Check.due("the winter stays", x.count(9), 2);
        Check.due("names stay", Check.winter(x, "up v;"), 0);
        Check.due("mark(1, true)", x.mark(1, true), true);
    }

    private static void begins() {
        CoalHoles x = Check.onTerrace("hole a flag 1 coal 9 burns 1;guest w wanted flag 1;guest c cat flag 2;"
            + "war 1 2;cold 3;sack 9;takes 0;");
        Check.winter(x, "day;");
        x.bring(0);
        x.down(1, 0);
        x.day();
        x.hear(3, false);
        x.mark(0, false);
        Check.due("seized", x.count(7), 1);
        Check.due("another", Check.terrace(x, "hole a flag 1 coal 9 burns 2;guest w wanted flag 1;guest c cat flag 2;"), 0);
        int[] counts = {1, 2, 5, 0, 1, 9, 3, 0, 0, 0, 0, 0, 0};
        for (int what = 0; what < counts.length; what++) {
            Check.due("a new terrace: count(" + what + ")", x.count(what), counts[what]);
        }
        Check.due("undo()", x.undo(), false);
        Check.due("mark(0, true)", x.mark(0, true), false);
        Check.due("no war", x.pairs(), 0);
        Check.due("the law is not told", x.hole(0, 5), 3);
        Check.due("nobody is inside", x.hole(0, 3), 0);
        for (int i = 0; i < 3; i++) {
            Check.due("the same once more", Check.terrace(x, HOLES + GUESTS
                + "wall a e;wall d e;war 0 9;war 9 8;cold 1 2;sack 3;takes 1;"), 0);
            Check.due("beside", x.hole(4, 4), 9);
            Check.due("pairs", x.pairs(), 4);
        }
        Check.due("an empty one", Check.terrace(x, ""), 0);
        Check.due("cold", x.count(4), 1);
        Check.due("count(0)", x.count(0), 0);
        Check.due("count(1)", x.count(1), 0);
        Check.due("no names", Check.winter(x, "bring a;"), Check.fault(2, 6));
    }

    private static void winters() {
        CoalHoles x = Check.onTerrace(HOLES + GUESTS);
        Check.due("an empty winter", Check.winter(x, ""), 0);
        Check.due("all lines", Check.winter(x, "down v a ; up v;through v b;\nbring c;day;"), 0);
        Check.due("count(9)", x.count(9), 5);
        Check.due("40 lines", Check.winter(x, "day;".repeat(40)), 0);
        Check.due("count(9)", x.count(9), 40);
        Check.due("nothing is done", x.count(3), 0);
        Check.due("nothing can be undone", x.count(11), 0);
        Check.due("an empty winter again", Check.winter(x, " "), 0);
        Check.due("count(9)", x.count(9), 0);
    }

    private static void winterFault(int kind, String ahead, String token, String behind) {
        CoalHoles x = Check.onTerrace(HOLES + GUESTS);
        String text = ahead + token + behind;
        Check.due("winter of " + text, Check.winter(x, text), Check.fault(kind, ahead.length()));
    }

    private static void winterFaults() {
        winterFault(5, "day;".repeat(40), "day", ";");
        winterFault(5, "day;".repeat(40), "down", " q q;");
        winterFault(1, "day;".repeat(40), "hole", ";");
        winterFault(1, "day;".repeat(40), ";", "");
        winterFault(1, "day;day ", "day", ";");
        winterFault(1, "day;day", "", "");
        winterFault(1, "", "hole", " a;");
        winterFault(1, "", "rest", ";");
        winterFault(1, "down ", ";", "");
        winterFault(1, "down ", "cat", " a;");
        winterFault(1, "down v ", ";", "");
        winterFault(1, "down v a ", "b", ";");
        winterFault(1, "up v ", "a", ";");
        winterFault(1, "bring ", "5", ";");
        winterFault(2, "down ", "a", " v;");
        winterFault(2, "down v ", "v", ";");
        winterFault(2, "down v ", "q", ";");
        winterFault(2, "up ", "a", ";");
        winterFault(2, "through ", "q", " a;");
        winterFault(2, "through v ", "w", ";");
        winterFault(2, "bring ", "v", ";");
        winterFault(1, "bring ", "aaaaaaaaa", ";");
    }
}

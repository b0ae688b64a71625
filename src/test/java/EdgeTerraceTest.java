/** The edges of a TERRACE that is told: its lines, its NAMES, its FAULTS, and promise 3. */
public final class EdgeTerraceTest {
    private static final String NAMES = "abcdefghij";
    private static final String[] RESERVED = {"hole", "flag", "coal", "burns", "wall", "guest", "war", "cold", "sack",
        "takes", "down", "up", "through", "bring", "day", "plain", "wanted", "envoy", "cat", "not", "and", "or"};

    public static void main(String[] args) {
        manyHoles();
        manyGuests();
        holeNumbers();
        kindsAndFlags();
        walls();
        wars();
        manyColds();
        coldAgain();
        sackHolds();
        onceEach();
        anyNumber();
        reservedNames();
        likeNames();
        leastFault();
        firstToken();
        theEnd();
        eachTokenWrong();
        holdsFromThenOn();
        allStays();
        Check.end();
    }

    private static String holes(int many) {
        StringBuilder s = new StringBuilder();
        for (int i = 0; i < many; i++) {
            s.append("hole ").append(NAMES.charAt(i)).append(" flag ").append(9 - i).append(" coal ").append(60 - i)
                .append(" burns ").append(i).append(";");
        }
        return s.toString();
    }

    private static String guests(int many) {
        StringBuilder s = new StringBuilder();
        for (int i = 0; i < many; i++) {
            s.append("guest ").append(NAMES.charAt(9 - i)).append(" cat flag ").append(i).append(";");
        }
        return s.toString();
    }

    private static void manyHoles() {
        Check.sentence("TERRACE", "hole: 5 at most, numbered as told");
        for (int many = 0; many <= 5; many++) {
            CoalHoles x = Check.onTerrace(holes(many));
            Check.due("count(0)", x.count(0), many);
            for (int i = -1; i <= 6; i++) {
                boolean is = i >= 0 && i < many;
                Check.due("flag of " + i, x.hole(i, 0), is ? 9 - i : -1);
                Check.due("coal of " + i, x.hole(i, 1), is ? 60 - i : -1);
                Check.due("burns of " + i, x.hole(i, 2), is ? i : -1);
            }
        }
        Check.sentence("FAULTS", "5: the word hole of a sixth");
        Check.fault(5, holes(5), "hole", " f flag 1 coal 1 burns 1;");
        Check.fault(5, holes(5), "hole", "");
        Check.fault(5, holes(5) + guests(5), "hole", " a;");
        Check.fault(1, holes(4) + "hole", "", "");
        Check.fault(1, holes(5), "holes", " f");
        Check.told(holes(5) + guests(5) + "sack 1;");
    }

    private static void manyGuests() {
        Check.sentence("TERRACE", "guest: 5 at most, numbered as told");
        for (int many = 0; many <= 5; many++) {
            CoalHoles x = Check.onTerrace(guests(many));
            Check.due("count(1)", x.count(1), many);
            for (int i = -1; i <= 6; i++) {
                Check.due("flag of " + i, x.guest(i, 1), i >= 0 && i < many ? i : -2);
            }
        }
        Check.sentence("FAULTS", "5: the word guest of a sixth");
        Check.fault(5, guests(5), "guest", " q cat flag 1;");
        Check.fault(5, guests(5), "guest", "");
        Check.fault(5, guests(5) + holes(5), "guest", " a;");
        Check.fault(1, guests(4) + "guest", "", "");
        Check.fault(1, guests(5), "guests", " q");
    }

    /** A NUMBER that may be from least to most: those at the edges, and those beyond. */
    private static void range(String ahead, int least, int most, String behind) {
        for (int n : new int[] {least, least + 1, most - 1, most}) {
            Check.told(ahead + n + behind);
            Check.told(ahead + (n < 10 ? "000" : "00") + n + behind);
        }
        for (int n : new int[] {least - 1, most + 1, most + 2, 100, 9999}) {
            Check.fault(n < 0 ? 1 : 4, ahead, String.valueOf(n), behind);
        }
        Check.fault(1, ahead, "10000", behind);
        Check.fault(1, ahead, "a", behind);
        Check.fault(1, ahead, "-", "1" + behind);
    }

    private static void holeNumbers() {
        Check.sentence("TERRACE, FAULTS 4", "flag 0 to 9, coal 0 to 60, burns 0 to 9");
        range("hole a flag ", 0, 9, " coal 1 burns 1;");
        range("hole a flag 1 coal ", 0, 60, " burns 1;");
        range("hole a flag 1 coal 1 burns ", 0, 9, ";");
        CoalHoles x = Check.onTerrace("hole a flag 0 coal 0 burns 9;hole b flag 9 coal 60 burns 0;");
        Check.dueAt("hole(0, what)", Check.at(0, 1, 2), what -> x.hole(0, what), 0, 0, 9);
        Check.dueAt("hole(1, what)", Check.at(0, 1, 2), what -> x.hole(1, what), 9, 60, 0);
    }

    private static void kindsAndFlags() {
        Check.sentence("TERRACE", "KIND: plain, wanted, envoy, cat; flag 0 to 9");
        range("guest a plain flag ", 0, 9, ";");
        CoalHoles x = Check.onTerrace("guest a plain flag 0;guest b wanted flag 9;guest c envoy flag 8;guest d cat flag 1;");
        Check.dueAt("guest(guest, 0)", Check.at(-1, 0, 1, 2, 3, 4), guest -> x.guest(guest, 0), -2, 0, 1, 2, 3, -2);
        Check.dueAt("guest(guest, 1)", Check.at(-1, 0, 1, 2, 3, 4), guest -> x.guest(guest, 1), -2, 0, 9, 8, 1, -2);
        for (String other : new String[] {"plai", "plains", "day", "bring", "not", "and", "cats", "king", "flag", "left", "1"}) {
            Check.fault(1, "guest a ", other, " flag 1;");
        }
    }

    private static void walls() {
        Check.sentence("TERRACE, FAULTS 2, 3", "wall: two HOLES told, not the same, each pair once");
        Check.fault(2, "wall ", "a", " b;");
        Check.fault(2, holes(1) + "wall a ", "b", ";");
        Check.fault(2, holes(1) + "wall ", "b", " a;");
        Check.fault(3, holes(1) + "wall a ", "a", ";");
        Check.told(holes(2) + "wall a b;");
        Check.told(holes(2) + "wall b a;");
        Check.fault(2, holes(1) + "wall a ", "b", ";hole b flag 1 coal 1 burns 1;");
        Check.fault(3, holes(2) + "wall a b;wall a ", "b", ";");
        Check.fault(3, holes(2) + "wall a b;wall b ", "a", ";");
        Check.fault(3, holes(2) + "wall b ", "b", ";");
        Check.fault(2, holes(2) + guests(1) + "wall ", "j", " a;");
        Check.fault(2, holes(2) + guests(1) + "wall a ", "j", ";");
        Check.fault(2, holes(2) + guests(1) + "wall ", "j", " j;");
        StringBuilder all = new StringBuilder(holes(5));
        for (int i = 0; i < 5; i++) {
            for (int j = i + 1; j < 5; j++) {
                all.append("wall ").append(NAMES.charAt(i)).append(" ").append(NAMES.charAt(j)).append(";");
            }
        }
        CoalHoles x = Check.onTerrace(all.toString());
        Check.dueAt("all beside one another", Check.at(0, 1, 2, 3, 4), hole -> x.hole(hole, 4), 30, 29, 27, 23, 15);
        for (int i = 0; i < 5; i++) {
            for (int j = 0; j < 5; j++) {
                Check.fault(3, all + "wall " + NAMES.charAt(i) + " ", String.valueOf(NAMES.charAt(j)), ";");
            }
        }
        CoalHoles y = Check.onTerrace(holes(5) + "wall e a;wall c d;");
        Check.dueAt("some", Check.at(0, 1, 2, 3, 4), hole -> y.hole(hole, 4), 16, 0, 8, 4, 1);
        Check.fault(1, holes(2) + "wall a b ", "a", ";");
        Check.fault(1, holes(2) + "wall a ", ";", "");
        Check.fault(1, holes(2) + "wall ", "1", " a;");
    }

    private static void wars() {
        Check.sentence("TERRACE, FAULTS 3, 4", "war: two flags, not the same, each pair once");
        range("war ", 0, 9, " 5;");
        range("war 5 ", 0, 9, ";");
        StringBuilder all = new StringBuilder();
        for (int i = 0; i < 10; i++) {
            Check.fault(3, "war " + i + " ", String.valueOf(i), ";");
            for (int j = i + 1; j < 10; j++) {
                Check.fault(3, "war " + i + " " + j + ";war " + i + " ", String.valueOf(j), ";");
                Check.fault(3, "war " + i + " " + j + ";war " + j + " ", String.valueOf(i), ";");
                all.append("war ").append(j).append(" ").append(i).append(";");
            }
        }
        Check.due("all pairs", Check.onTerrace(all + guests(5)).pairs(), 10);
        Check.fault(3, all + "war 0 ", "9", ";");
        Check.fault(3, all + "war 9 ", "0009", ";");
        Check.fault(4, all + "war 9 ", "10", ";");
        Check.fault(1, "war 1 2 ", "3", ";");
        Check.due("flags that nobody has", Check.onTerrace("war 8 9;" + guests(5)).pairs(), 0);
    }

    private static String colds(int many) {
        return "cold" + " 1".repeat(many);
    }

    private static void manyColds() {
        Check.sentence("TERRACE", "cold 0 to 3, 1 to 12 of them");
        range("cold ", 0, 3, ";");
        range("cold 3 ", 0, 3, ";");
        range(colds(11) + " ", 0, 3, ";");
        Check.fault(1, "cold", ";", "");
        for (int many = 1; many <= 12; many++) {
            Check.told(colds(many) + ";");
            Check.fault(1, colds(many), "", "");
            Check.fault(1, colds(many) + " ", "a", ";");
        }
        Check.sentence("FAULTS", "5: a thirteenth NUMBER of cold");
        Check.fault(5, colds(12) + " ", "1", ";");
        Check.fault(5, colds(12) + " ", "1", " 1;");
        Check.fault(5, colds(12) + " ", "3", "");
        Check.fault(1, colds(12) + " ", "a", ";");
        Check.fault(4, colds(12) + " ", "4", ";");
        Check.fault(1, colds(12) + " ", "10000", ";");
    }

    private static void coldAgain() {
        Check.sentence("TERRACE", "cold of one day behind another, again and again (1)");
        int[] row = {3, 0, 2, 1, 0, 3, 1, 2, 3, 3, 0, 2};
        for (int many : new int[] {1, 2, 3, 11, 12}) {
            StringBuilder s = new StringBuilder("cold");
            for (int i = 0; i < many; i++) {
                s.append(" ").append(row[i]);
            }
            CoalHoles x = Check.onTerrace(s + ";");
            for (int date = 0; date <= 3 * many; date++) {
                Check.due(many + " of cold, date " + date, x.count(4), row[date % many]);
                x.day();
            }
        }
        CoalHoles y = Check.onTerrace("");
        for (int date = 0; date < 14; date++) {
            Check.due("not told, date " + date, y.count(4), 1);
            y.day();
        }
    }

    private static void sackHolds() {
        Check.sentence("TERRACE", "sack 1 to 20 (5)");
        range("sack ", 1, 20, ";");
        Check.dueAt("sack", Check.at(1, 2, 19, 20), n -> Check.onTerrace("sack " + n + ";").count(2), 1, 2, 19, 20);
        Check.due("not told", Check.onTerrace("").count(2), 5);
        Check.due("told as 5", Check.onTerrace("sack 5;").count(2), 5);
        Check.fault(3, "sack 5;", "sack", " 5;");
    }

    private static void onceEach() {
        Check.sentence("TERRACE, FAULTS 3", "cold, sack, takes: once each");
        String[][] lines = {{"cold", " 1;"}, {"sack", " 5;"}, {"takes", " 0;"}};
        for (String[] line : lines) {
            Check.told(line[0] + line[1]);
            Check.fault(3, line[0] + line[1], line[0], line[1]);
            Check.fault(3, line[0] + line[1], line[0], ";");
            Check.fault(3, line[0] + line[1], line[0], "");
            for (String[] other : lines) {
                if (other != line) {
                    Check.told(line[0] + line[1] + other[0] + other[1]);
                    Check.fault(3, line[0] + line[1] + other[0] + other[1], line[0], line[1]);
                    Check.fault(3, line[0] + line[1] + other[0] + other[1], other[0], other[1]);
                }
            }
        }
        Check.fault(3, "cold 0;", "cold", " 0;");
        Check.fault(3, "sack 1;cold 1;takes 1;" + holes(1), "takes", " 1;");
    }

    private static void anyNumber() {
        Check.sentence("TERRACE", "any number of these lines, in any order");
        Check.told("");
        Check.fault(1, "", ";", "");
        Check.fault(1, "sack 1;", ";", "");
        Check.told("takes 1;sack 2;cold 3;war 1 2;guest j cat flag 1;" + holes(2) + "guest i cat flag 2;wall b a;"
            + "hole z flag 1 coal 1 burns 1;wall z a;war 2 3;");
        for (String word : RESERVED) {
            boolean begins = "hole wall guest war cold sack takes".contains(word);
            Check.fault(1, begins ? word + " " : "", begins ? ";" : word, "");
        }
        Check.fault(1, "", "left", " 1;");
        Check.fault(1, "", "1", ";");
        Check.fault(1, "", "(", ");");
    }

    private static void reservedNames() {
        Check.sentence("TERRACE", "a NAME is another WORD than hole, flag .. not, and, or");
        for (String word : RESERVED) {
            Check.fault(1, "hole ", word, " flag 1 coal 1 burns 1;");
            Check.fault(1, "guest ", word, " cat flag 1;");
            Check.fault(1, holes(2) + "wall ", word, " a;");
            Check.fault(1, holes(2) + "wall a ", word, ";");
            for (String name : new String[] {word.substring(0, word.length() - 1), word + "s", "x" + word}) {
                Check.told("hole " + name + " flag 1 coal 1 burns 1;");
                Check.told("guest " + name + " cat flag 1;");
            }
        }
        for (String fact : new String[] {"left", "inside", "same", "date"}) {
            Check.told("hole " + fact + " flag 1 coal 1 burns 1;hole q flag 1 coal 1 burns 1;wall " + fact + " q;");
            Check.told("guest " + fact + " cat flag 1;takes " + fact + ";");
        }
    }

    private static void likeNames() {
        Check.sentence("TERRACE, FAULTS 3", "no two (HOLES, GUESTS) are alike");
        String hole = " flag 1 coal 1 burns 1;";
        Check.fault(3, "hole a" + hole + "hole ", "a", hole);
        Check.fault(3, "hole a" + hole + "guest ", "a", " cat flag 1;");
        Check.fault(3, "guest a cat flag 1;hole ", "a", hole);
        Check.fault(3, "guest a cat flag 1;guest ", "a", " cat flag 1;");
        Check.fault(3, holes(5) + "guest ", "e", " cat flag 1;");
        Check.fault(3, holes(4) + "hole ", "a", hole);
        Check.fault(3, guests(4) + "guest ", "j", " cat flag 1;");
        Check.fault(3, guests(5) + "hole ", "f", hole);
        for (String[] pair : new String[][] {{"a", "b"}, {"a", "aa"}, {"aa", "a"}, {"abcdefgh", "abcdefgg"},
            {"abcdefgh", "bbcdefgh"}, {"abcdefgh", "abcdefg"}, {"abcdefg", "abcdefgh"}, {"zzzzzzzz", "zzzzzzzy"}}) {
            Check.told("hole " + pair[0] + hole + "hole " + pair[1] + hole);
            Check.told("hole " + pair[0] + hole + "guest " + pair[1] + " cat flag 1;");
            Check.told("guest " + pair[0] + " cat flag 1;guest " + pair[1] + " cat flag 1;");
            Check.fault(2, "hole " + pair[0] + hole + "wall ", pair[1], " a;");
        }
        Check.fault(3, "hole abcdefgh" + hole + "hole ", "abcdefgh", hole);
    }

    private static void leastFault() {
        Check.sentence("FAULTS", "of a token that is wrong in two ways the least kind");
        Check.fault(4, colds(12) + " ", "4", ";");
        Check.fault(4, colds(12) + " ", "9999", ";");
        Check.fault(1, "takes (((((", "coal", ")))));");
        Check.fault(1, "takes not not not not not ", ";", "");
        Check.fault(1, "takes (((((", "10000", ")))));");
        Check.fault(5, "takes (((((", "9999", ")))));");
        Check.fault(1, holes(5), "a", " flag 1;");
        Check.fault(2, holes(2) + "wall a b;wall a ", "c", ";");
    }

    private static void firstToken() {
        Check.sentence("FAULTS", "of the first token from the left that is wrong");
        Check.fault(4, "sack ", "0", " x;");
        Check.fault(4, "sack ", "21", ";cold x;");
        Check.fault(4, "war ", "10", " 10;");
        Check.fault(3, "war 1 ", "1", " x");
        Check.fault(2, "wall ", "a", " ;");
        Check.fault(5, holes(5), "hole", " hole;");
        Check.fault(3, holes(1) + "hole ", "a", " coal;");
        Check.fault(1, "sack ", ";", "sack 0;");
    }

    private static void theEnd() {
        Check.sentence("FAULTS", "the end is a token at the text's length");
        String text = "hole a flag 1 coal 1 burns 1 ; wall a a ;";
        for (int cut = 1; cut < 29; cut++) {
            // All cuts of the first line behind a whole token: the end is what is wrong there.
            if (text.charAt(cut) == ' ') {
                Check.fault(1, text.substring(0, cut), "", "");
                Check.fault(1, text.substring(0, cut) + " \n", "", "");
            }
        }
        Check.told(text.substring(0, 30));
        Check.fault(1, text.substring(0, 35), "", "");
        Check.fault(1, text.substring(0, 37), "", "");
        Check.fault(3, text.substring(0, 38), "a", "");
        Check.fault(1, "takes", "", "");
        Check.fault(1, "takes 1", "", "");
        Check.fault(1, "takes 1+", "", "");
        Check.fault(1, "takes (1", "", "");
        Check.fault(1, "takes (1)", "", "");
        Check.fault(1, "takes not", "", "");
        Check.fault(1, "cold 1 2", "", "");
        Check.fault(1, "war 1", "", "");
        Check.fault(1, "war", "", "");
        Check.fault(1, "guest a", "", "");
        Check.fault(1, "guest a cat", "", "");
        Check.fault(1, "guest a cat flag", "", "");
    }

    private static void eachTokenWrong() {
        Check.sentence("FAULTS", "1: it is none, or can't stand there");
        String[] lines = {"hole a flag 1 coal 1 burns 1 ;", "guest b cat flag 1 ;", "war 1 2 ;", "cold 1 ;", "sack 5 ;"};
        for (String line : lines) {
            for (int from = line.indexOf(' ') + 1; from < line.length(); from = line.indexOf(' ', from) + 1) {
                int to = line.indexOf(' ', from);
                String behind = to < 0 ? "" : line.substring(to);
                for (String stray : new String[] {"*", "(", "hole", "takes", "!", "12345", "abcdefghi"}) {
                    Check.fault(1, line.substring(0, from), stray, behind);
                }
                if (to < 0) {
                    break;
                }
            }
        }
    }

    private static void holdsFromThenOn() {
        Check.sentence("TERRACE", "without a FAULT: day 0, all in the street, coal as told, nobody SEIZED, no sack brought,"
            + " no WINTER, nothing HEARD, nothing can be undone, no MARK");
        String text = "hole a flag 1 coal 9 burns 1;guest w wanted flag 1;guest p plain flag 1;";
        CoalHoles x = Check.onTerrace(text);
        x.down(1, 0);
        x.bring(0);
        x.day();
        x.hear(1, true);
        Check.winter(x, "day;");
        Check.dueAt("mark(mark, false)", Check.at(0, 1, 2, 3), mark -> Check.bit(x.mark(mark, false)), 1, 1, 1, 1);
        Check.dueAt("ahead: count", Check.at(3, 5, 6, 7, 8, 9, 10, 11), x::count, 1, 13, 0, 1, 1, 1, 1, 3);
        Check.due("the same told again", Check.terrace(x, text), 0);
        Check.dueAt("count", Check.at(3, 5, 6, 7, 8, 9, 10, 11), x::count, 0, 9, 3, 0, 0, 0, 0, 0);
        Check.due("who was inside", x.hole(0, 3), 0);
        Check.due("coals(0)", x.coals(0), 61);
        Check.due("judged(1)", x.judged(1), -1);
        Check.due("undo()", x.undo(), false);
        Check.dueAt("mark(mark, true)", Check.at(0, 1, 2, 3), mark -> Check.bit(x.mark(mark, true)), 0, 0, 0, 0);
        Check.due("what is not told is not kept", Check.terrace(x, "cold 3;sack 9;takes 0;war 1 2;" + holes(2) + "wall a b;"), 0);
        Check.due("one of nothing", Check.terrace(x, ""), 0);
        Check.dueAt("count", Check.at(0, 1, 2, 3, 4, 5), x::count, 0, 0, 5, 0, 1, 0);
        Check.due("the same names may come again", Check.terrace(x, holes(2) + guests(2)), 0);
        Check.due("no wall", x.hole(0, 4), 0);
        Check.due("no war", x.pairs(), 0);
        Check.due("no law", x.hole(0, 5), 3);
    }

    private static void allStays() {
        Check.sentence("Promise 3", "its FAULT (all stays then)");
        CoalHoles x = Check.onTerrace("hole a flag 1 coal 9 burns 2;hole b flag 2 coal 8 burns 1;wall a b;"
            + "guest w wanted flag 1;guest p plain flag 2;war 1 2;cold 2 0;sack 3;takes same;");
        x.down(1, 1);
        x.bring(0);
        x.day();
        x.hear(1, false);
        Check.winter(x, "down p a;day;");
        x.mark(2, false);
        String[] wrong = {"hole q flag 0 coal 0 burns 0;wall q q;", "guest w cat flag 0;cold 4;", "war 1 2;war 2 1;",
            "cold 3 3;sack 0;", "takes 1;sack 9;takes", "sack 1;cold 1;takes 1;" + holes(5) + guests(5) + "hole", "*"};
        for (String text : wrong) {
            Check.due("a fault in " + text, Check.terrace(x, text) != 0, true);
            Check.dueAt("count", Check.at(0, 1, 2, 3, 4, 5, 6, 7, 8, 9, 10, 11, 12), x::count,
                2, 2, 3, 1, 0, 14, 0, 1, 1, 2, 1, 3, 0);
            Check.dueAt("hole(0, what)", Check.at(0, 1, 2, 3, 4, 5), what -> x.hole(0, what), 1, 8, 2, 0, 2, 1);
            Check.dueAt("hole(1, what)", Check.at(0, 1, 2, 3, 4, 5), what -> x.hole(1, what), 2, 6, 1, 2, 1, 0);
            Check.dueAt("guest(0, what)", Check.at(0, 1, 2, 3, 4), what -> x.guest(0, what), 1, 1, -1, 1, 0);
            Check.due("pairs()", x.pairs(), 1);
            Check.due("judged(0)", x.judged(0), 0);
            Check.due("judged(1)", x.judged(1), 1);
            Check.due("names", Check.winter(x, "down p a;day;"), 0);
            Check.due("coals(2)", x.coals(2), 0);
            Check.due("mark(1, true)", x.mark(1, true), false);
        }
        Check.due("the deeds can be undone", x.undo() && x.undo() && x.undo(), true);
        Check.due("and no more", x.undo(), false);
        Check.due("the mark is there", x.mark(2, true), true);
        Check.due("count(3)", x.count(3), 1);
    }
}

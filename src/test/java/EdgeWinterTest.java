/** The edges of winters: WINTER and its FAULTS, JUDGED, DRAW and WINTERS, MARKS; promises 4, 13, 28, 29. */
public final class EdgeWinterTest {
    private static final String TERRACE = "hole a flag 1 coal 6 burns 2;hole b flag 2 coal 60 burns 0;wall a b;"
        + "guest p plain flag 1;guest w wanted flag 2;guest k cat flag 2;sack 5;";

    public static void main(String[] args) {
        lines();
        lineFaults();
        namesTold();
        winterStays();
        judgedWhat();
        judgedCant();
        judgedSeizes();
        judgedSacks();
        judgedFromTheBeginning();
        draws();
        drawnGoing();
        wintersArguments();
        wintersDays();
        wintersWithout();
        wintersAsAhead();
        marksThere();
        marksHold();
        marksUndo();
        Check.end();
    }

    private static int read(String text) {
        return Check.winter(Check.onTerrace(TERRACE), text);
    }

    private static void wrong(int kind, String ahead, String token, String behind) {
        String text = ahead + token + behind;
        Check.due("winter() of " + text, read(text), Check.fault(kind, ahead.length()));
    }

    private static void lines() {
        Check.sentence("WINTER, FAULTS 5", "40 lines at most; the first word of a 41st line");
        Check.dueAt("so many lines", Check.at(0, 1, 2, 39, 40, 41, 42), many -> read("day;".repeat(many)),
            0, 0, 0, 0, 0, Check.fault(5, 160), Check.fault(5, 160));
        CoalHoles x = Check.onTerrace(TERRACE);
        Check.dueAt("count(9)", Check.at(0, 1, 39, 40, 41), many -> {
            Check.winter(x, "day;".repeat(many));
            return x.count(9);
        }, 0, 1, 39, 40, 40);
        String forty = "up p;bring a;".repeat(20);
        for (String verb : new String[] {"down", "up", "through", "bring", "day"}) {
            wrong(5, forty, verb, " q q;");
            wrong(5, forty, verb, "");
            wrong(5, forty + "\n ", verb, ";");
        }
        Check.sentence("FAULTS", "1 ahead of 5: what is no first word of a line, 41st or not");
        for (String stray : new String[] {";", "hole", "flag", "coal", "burns", "wall", "guest", "war", "cold", "sack", "takes", "plain",
            "wanted", "envoy", "cat", "not", "and", "or", "left", "a", "days", "da", "1", "(", "?", "throughs"}) {
            wrong(1, "", stray, ";");
            wrong(1, forty.substring(0, forty.length() - "bring a;".length()), stray, ";");
            wrong(1, forty, stray, ";");
        }
        Check.due("blanks behind the 40th", read(forty + " \n"), 0);
    }

    private static void lineFaults() {
        Check.sentence("WINTER, FAULTS 1", "down NAME NAME ; up NAME ; through NAME NAME ; bring NAME ; day ;");
        for (String line : new String[] {"down w a ;", "up w ;", "through w a ;", "bring a ;", "day ;"}) {
            Check.due("winter() of " + line, read(line), 0);
            for (int from = line.indexOf(' ') + 1; from > 0; from = line.indexOf(' ', from) + 1) {
                String ahead = line.substring(0, from);
                for (String stray : new String[] {"1", "hole", "cat", "day", "(", "?", "abcdefghi", "12345"}) {
                    wrong(1, ahead, stray, " ;");
                }
                wrong(1, ahead, "", "");
                wrong(1, ahead.trim(), "", "");
                if (line.charAt(from) != ';') {
                    wrong(1, ahead, ";", "");
                } else {
                    wrong(1, ahead, "w", ";");
                    wrong(1, ahead, "a", ";");
                    wrong(1, ahead + ";", ";", "");
                }
            }
        }
    }

    private static void namesTold() {
        Check.sentence("WINTER, FAULTS 2", "a NAME of no HOLE (behind bring, the second of down, through), of no GUEST"
            + " (behind down, up, through) told");
        for (String other : new String[] {"a", "b", "c", "left", "ww", "pp", "v", "x"}) {
            wrong(2, "down ", other, " a;");
            wrong(2, "up ", other, ";");
            wrong(2, "through ", other, " a;");
        }
        for (String other : new String[] {"p", "w", "k", "c", "date", "aa", "bb"}) {
            wrong(2, "down w ", other, ";");
            wrong(2, "through w ", other, ";");
            wrong(2, "bring ", other, ";");
        }
        wrong(2, "down ", "a", " p;");
        wrong(2, "down ", "q", ";");
        for (String guest : new String[] {"p", "w", "k"}) {
            for (String hole : new String[] {"a", "b"}) {
                Check.due("all told", read("down " + guest + " " + hole + ";through " + guest + " " + hole + ";up " + guest
                    + ";bring " + hole + ";"), 0);
            }
        }
        CoalHoles x = new CoalHoles();
        Check.due("ahead of any terrace", Check.winter(x, "day;day;"), 0);
        Check.due("count(9)", x.count(9), 2);
        Check.due("no name is told", Check.winter(x, "bring a;"), Check.fault(2, 6));
        Check.due("no name is told", Check.winter(x, "up p;"), Check.fault(2, 3));
        Check.due("a terrace", Check.terrace(x, TERRACE), 0);
        Check.due("the names of another terrace", Check.terrace(x, "hole c flag 1 coal 1 burns 1;guest v cat flag 1;"), 0);
        Check.due("are told no more", Check.winter(x, "bring a;"), Check.fault(2, 6));
        Check.due("are told no more", Check.winter(x, "bring b;"), Check.fault(2, 6));
        Check.due("are told no more", Check.winter(x, "up p;"), Check.fault(2, 3));
        Check.due("its own are", Check.winter(x, "down v c;"), 0);
    }

    private static void winterStays() {
        Check.sentence("Promise 4", "the TAPE is read as a WINTER, likewise: its FAULT (all stays then)");
        CoalHoles x = Check.onTerrace(TERRACE);
        Check.due("a winter", Check.winter(x, "bring a;down w a;day;"), 0);
        x.bring(1);
        for (String text : new String[] {"day", "day;day;day;day;up a;", "down w b;bring b;up", "day;".repeat(41), ";"}) {
            Check.due("a fault in " + text, Check.winter(x, text) != 0, true);
            Check.dueAt("count", Check.at(3, 8, 9, 11, 12), x::count, 0, 1, 3, 1, 0);
            Check.dueAt("judged", Check.at(0, 1, 2), x::judged, -1, -1, 1);
        }
        Check.due("a winter is told, not done", Check.winter(x, "day;bring a;"), 0);
        Check.dueAt("count", Check.at(3, 8, 9, 11), x::count, 0, 1, 2, 1);
        Check.due("an empty one", Check.winter(x, ""), 0);
        Check.dueAt("judged", Check.at(0, 1, 2), x::judged, -1, -1, 0);
        Check.due("count(9)", x.count(9), 0);
    }

    private static void judged(String winter, int cant, int seizing, int sacks) {
        CoalHoles x = Check.onTerrace(TERRACE);
        Check.due("winter() of " + winter, Check.winter(x, winter), 0);
        Check.dueAt("judged of " + winter, Check.at(0, 1, 2), x::judged, cant, seizing, sacks);
    }

    private static void judgedWhat() {
        Check.sentence("Promise 13", "what 0, 1: lines (NONE: none), 2: sacks; -2: others");
        CoalHoles x = Check.onTerrace(TERRACE);
        Check.dueAt("no winter", Check.at(Integer.MIN_VALUE, -2, -1, 0, 1, 2, 3, 4, Integer.MAX_VALUE), x::judged,
            -2, -2, -2, -1, -1, 0, -2, -2, -2);
        Check.winter(x, "up p;bring a;day;");
        Check.dueAt("a winter", Check.at(Integer.MIN_VALUE, -2, -1, 0, 1, 2, 3, 4, Integer.MAX_VALUE), x::judged,
            -2, -2, -2, 0, 2, 1, -2, -2, -2);
    }

    private static void judgedCant() {
        Check.sentence("JUDGED", "the first line (from 0) that can't be; it is left out; a bring, a day always can");
        judged("down p a;", -1, -1, 0);
        judged("up p;", 0, -1, 0);
        judged("down p a;down p a;", 1, -1, 0);
        judged("down p a;up p;up p;", 2, -1, 0);
        judged("through p b;down p b;", 0, -1, 0);
        judged("down p a;through p a;", 1, -1, 0);
        judged("up k;up p;", 0, -1, 0);
        judged("down k a;up k;up p;", 2, -1, 0);
        // What can't be changes nothing: w is down in b, so he is not seized.
        judged("down w b;down w a;day;day;day;", 1, -1, 0);
        judged("bring a;".repeat(40), -1, -1, 40);
        judged("bring a;".repeat(39) + "up p;", 39, -1, 39);
        judged("bring a;".repeat(38) + "up p;bring a;", 38, -1, 39);
        judged("down w b;" + "day;".repeat(39), -1, -1, 0);
        judged("day;down w b;", 1, 0, 0);
        // 6, 4, 2 coal, then none: a plain one is taken no more.
        judged("down w b;day;day;down p a;", -1, -1, 0);
        judged("down w b;day;day;day;down p a;", 4, -1, 0);
    }

    private static void judgedSeizes() {
        Check.sentence("JUDGED", "the first one by which somebody is SEIZED");
        judged("day;", -1, 0, 0);
        judged("down w b;" + "day;".repeat(38) + "up w;", -1, -1, 0);
        judged("down w b;" + "day;".repeat(37) + "up w;day;", -1, 39, 0);
        judged("down w b;day;up w;day;day;", -1, 3, 0);
        judged("down w a;day;day;", -1, -1, 0);
        judged("down w a;day;day;day;", -1, 3, 0);
        CoalHoles x = Check.onTerrace("hole a flag 1 coal 2 burns 1;guest v wanted flag 1;guest w wanted flag 1;");
        Check.winter(x, "down v a;day;day;day;");
        Check.due("of two who are seized the first", x.judged(1), 1);
        Check.winter(x, "down v a;down w a;day;day;day;");
        Check.due("w is not taken: he is", x.judged(1), 2);
        Check.winter(x, "down v a;bring a;down w a;day;day;day;day;day;day;day;day;");
        Check.due("behind 7 days", x.judged(1), 9);
    }

    private static void judgedSacks() {
        Check.sentence("JUDGED", "sacks that were brought");
        judged("", -1, -1, 0);
        judged("bring a;", -1, -1, 1);
        judged("bring b;bring a;", -1, -1, 2);
        // 60 and 8 sacks of 5 are 99: one more is brought all the same.
        judged("bring b;".repeat(9), -1, -1, 9);
    }

    private static void judgedFromTheBeginning() {
        Check.sentence("JUDGED", "from the beginning");
        CoalHoles x = Check.onTerrace("hole a flag 1 coal 6 burns 2;guest p plain flag 1;guest w wanted flag 2;cold 3 0;takes date=0;");
        x.down(1, 0);
        x.bring(0);
        x.day();
        x.mark(0, false);
        Check.winter(x, "down w a;day;bring a;down p a;");
        Check.dueAt("the first day, coal as told", Check.at(0, 1, 2), x::judged, 3, 1, 1);
        Check.dueAt("nothing is changed", Check.at(3, 5, 6, 7, 8, 11), x::count, 1, 5, 1, 0, 1, 3);
        Check.due("where", x.guest(1, 2), 0);
    }

    /** The draws themselves, by the document's words, without the class. */
    private static long next(long g) {
        return (g * 1103515245L + 12345L) % 2147483648L;
    }

    private static void draws() {
        Check.sentence("DRAW", "g becomes (g * 1103515245 + 12345) modulo 2147483648; it is g / 65536, cut, modulo m");
        for (int holes = 1; holes <= 5; holes++) {
            StringBuilder s = new StringBuilder("sack 1;");
            for (int i = 0; i < holes; i++) {
                // A hole that burns nothing, or all: only the sack of the last day to such a one is lost.
                s.append("hole ").append((char) ('a' + i)).append(" flag 1 coal 0 burns ").append(i % 2).append(";");
            }
            CoalHoles x = Check.onTerrace(s.toString());
            for (int seed : new int[] {0, 1, 2, 4999, 9998, 9999}) {
                long g = seed;
                int coal = 0;
                for (int days = 1; days <= 99; days++) {
                    g = next(g);
                    coal += (g / 65536 % holes) % 2 == 0 ? 1 : 0;
                    if (days < 4 || days > 96) {
                        Check.due(holes + " holes, winters(" + seed + ", " + days + ", 2)", x.winters(seed, days, 2), coal);
                    }
                }
            }
        }
    }

    private static void drawnGoing() {
        Check.sentence("WINTERS", "for each GUEST, by numbers, a DRAW below HOLES: in the street he goes DOWN there, else"
            + " THROUGH to it, if he can; a DRAW: a sack is brought there; then the DAY");
        for (int seed = 0; seed < 40; seed++) {
            CoalHoles x = Check.onTerrace("hole a flag 1 coal 3 burns 1;hole b flag 2 coal 0 burns 2;hole c flag 1 coal 22 burns 3;"
                + "wall a b;wall c b;guest p plain flag 1;guest w wanted flag 2;guest k cat flag 1;guest e envoy flag 1;war 1 2;"
                + "cold 1 0 2;sack 2;");
            // No more than 512 calls on one object: 40 days, not 99.
            int[] asked = {1, 2, 9, 40};
            int[][] told = new int[4][3];
            for (int i = 0; i < 4; i++) {
                for (int what = 0; what < 3; what++) {
                    told[i][what] = x.winters(seed, asked[i], what);
                }
            }
            long g = seed;
            int went = 0;
            for (int day = 1; day <= 40; day++) {
                for (int guest = 0; guest < 4; guest++) {
                    g = next(g);
                    int hole = (int) (g / 65536 % 3);
                    went += Check.bit(x.guest(guest, 2) == -1 ? x.down(guest, hole) : x.through(guest, hole));
                }
                g = next(g);
                x.bring((int) (g / 65536 % 3));
                x.day();
                for (int i = 0; i < 4; i++) {
                    if (asked[i] == day) {
                        Check.due("seed " + seed + ", days " + day + ": how often", told[i][0], went);
                        Check.due("seed " + seed + ", days " + day + ": seized", told[i][1], x.count(7));
                        Check.due("seed " + seed + ", days " + day + ": coal", told[i][2], x.count(5));
                    }
                }
            }
        }
    }

    private static void wintersArguments() {
        Check.sentence("Promise 28", "a SEED (0 to 9999), DAYS (1 to 99), what 0, 1, 2; NONE: others");
        CoalHoles x = Check.onTerrace(TERRACE);
        Check.dueAt("winters(seed, 1, 1)", Check.at(Integer.MIN_VALUE, -2, -1, 0, 1, 9998, 9999, 10000, 10001, Integer.MAX_VALUE),
            seed -> x.winters(seed, 1, 1) == -1 ? 0 : 1, 0, 0, 0, 1, 1, 1, 1, 0, 0, 0);
        Check.dueAt("winters(0, days, 1)", Check.at(Integer.MIN_VALUE, -1, 0, 1, 2, 98, 99, 100, 101, Integer.MAX_VALUE),
            days -> x.winters(0, days, 1) == -1 ? 0 : 1, 0, 0, 0, 1, 1, 1, 1, 0, 0, 0);
        Check.dueAt("winters(0, 1, what)", Check.at(Integer.MIN_VALUE, -2, -1, 0, 1, 2, 3, 4, Integer.MAX_VALUE),
            what -> x.winters(0, 1, what) == -1 ? 0 : 1, 0, 0, 0, 1, 1, 1, 0, 0, 0);
    }

    private static void wintersDays() {
        Check.sentence("WINTERS", "how often somebody went; who is SEIZED at last; coal of all at last");
        CoalHoles x = Check.onTerrace("hole a flag 1 coal 6 burns 2;guest w wanted flag 2;guest p plain flag 1;sack 1;");
        // One hole, a coal less each day: all go down at once, and are put out on the sixth day.
        Check.dueAt("went", Check.at(1, 5, 6, 7, 99), days -> x.winters(7, days, 0), 2, 2, 2, 2, 2);
        Check.dueAt("seized", Check.at(1, 5, 6, 7, 99), days -> x.winters(7, days, 1), 0, 0, 1, 1, 1);
        Check.dueAt("coal", Check.at(1, 5, 6, 7, 99), days -> x.winters(7, days, 2), 5, 1, 0, 0, 0);
        CoalHoles y = Check.onTerrace("hole a flag 1 coal 60 burns 1;guest p plain flag 1;sack 20;");
        Check.dueAt("99 at most, ahead of the day", Check.at(1, 2, 3, 99), days -> y.winters(0, days, 2), 79, 98, 98, 98);
        CoalHoles z = Check.onTerrace("hole a flag 1 coal 60 burns 1;guest v wanted flag 1;guest w wanted flag 1;takes 1;");
        z.down(1, 0);
        z.day();
        Check.due("who is seized already, too", z.winters(0, 1, 1), 1);
        Check.due("from now on: nobody goes", z.winters(0, 1, 0), 0);
    }

    private static void wintersWithout() {
        Check.sentence("WINTERS", "if there are HOLES");
        CoalHoles x = Check.onTerrace("guest w wanted flag 1;guest p plain flag 1;");
        Check.dueAt("no holes: winters(5, 99, what)", Check.at(-1, 0, 1, 2, 3), what -> x.winters(5, 99, what), -1, 0, 1, 0, -1);
        CoalHoles y = Check.onTerrace("hole a flag 1 coal 5 burns 0;sack 3;");
        Check.dueAt("no guests: winters(5, 4, what)", Check.at(0, 1, 2), what -> y.winters(5, 4, what), 0, 0, 17);
    }

    private static void wintersAsAhead() {
        Check.sentence("WINTERS", "all is as ahead then");
        CoalHoles x = Check.onTerrace(TERRACE);
        x.down(1, 1);
        x.day();
        Check.winter(x, "day;");
        int[] ahead = new int[13];
        for (int what = 0; what < 13; what++) {
            ahead[what] = x.count(what);
        }
        int first = x.winters(77, 99, 2);
        Check.due("the same again", x.winters(77, 99, 2), first);
        Check.dueAt("count", Check.at(0, 1, 2, 3, 4, 5, 6, 7, 8, 9, 10, 11, 12), x::count, ahead);
        Check.due("where", x.guest(1, 2), 1);
        Check.due("undo()", x.undo() && x.undo(), true);
        Check.due("undo()", x.undo(), false);
    }

    private static void marksThere() {
        Check.sentence("MARKS, Promise 29", "0 to 3; false: none such, nothing is on it (back)");
        CoalHoles x = Check.onTerrace(TERRACE);
        int[] around = {Integer.MIN_VALUE, -2, -1, 0, 1, 2, 3, 4, 5, Integer.MAX_VALUE};
        Check.dueAt("back, none laid", around, mark -> Check.bit(x.mark(mark, true)), 0, 0, 0, 0, 0, 0, 0, 0, 0, 0);
        Check.dueAt("laid", around, mark -> Check.bit(x.mark(mark, false)), 0, 0, 0, 1, 1, 1, 1, 0, 0, 0);
        Check.dueAt("back", around, mark -> Check.bit(x.mark(mark, true)), 0, 0, 0, 1, 1, 1, 1, 0, 0, 0);
        Check.dueAt("back again", around, mark -> Check.bit(x.mark(mark, true)), 0, 0, 0, 1, 1, 1, 1, 0, 0, 0);
        for (int laid = 0; laid < 4; laid++) {
            CoalHoles y = Check.onTerrace(TERRACE);
            y.mark(laid, false);
            for (int mark = 0; mark < 4; mark++) {
                Check.due("laid " + laid + ", back to " + mark, y.mark(mark, true), mark == laid);
            }
        }
        CoalHoles z = new CoalHoles();
        Check.due("ahead of any terrace", z.mark(3, false), true);
        z.day();
        Check.due("back", z.mark(3, true), true);
        Check.due("count(3)", z.count(3), 0);
        Check.due("a terrace", Check.terrace(z, ""), 0);
        Check.due("no mark is there", z.mark(3, true), false);
    }

    private static void marksHold() {
        Check.sentence("MARKS", "hold how it is, the WINTER, what is HEARD");
        CoalHoles x = Check.onTerrace(TERRACE);
        for (int mark = 0; mark < 4; mark++) {
            Check.winter(x, "bring b;".repeat(mark) + "up p;");
            x.bring(0);
            x.hear(mark + 1, true);
            x.mark(mark, false);
            x.down(mark == 3 ? 0 : mark, 1);
            x.day();
        }
        Check.due("w was down ahead of the second day, but not of the first", x.count(7), 2);
        for (int mark : new int[] {2, 0, 3, 1, 1, 0}) {
            Check.due("mark(" + mark + ", true)", x.mark(mark, true), true);
            Check.due("date", x.count(3), mark);
            Check.due("brought", x.count(8), mark + 1);
            Check.due("coal", x.hole(0, 1), 6 + 5 * (mark + 1) - 2 * mark);
            Check.due("who is in the street", x.count(6), new int[] {7, 4, 4, 0}[mark]);
            Check.due("who is seized", x.count(7), mark == 0 ? 0 : 2);
            Check.due("the winter", x.count(9), mark + 1);
            Check.due("the winter", x.judged(0), mark);
            Check.due("the winter", x.judged(2), mark);
            Check.due("heard", x.count(10), mark + 1);
            Check.due("heard", x.coals(1), 2 * (mark + 1) + 1);
            x.day();
            x.hear(30, false);
            Check.winter(x, "day;day;day;");
        }
        Check.sentence("MARKS", "a MARK is laid again over itself, and the TAPE is not held");
        x.mark(0, true);
        x.bring(1);
        Check.feed(x, "day;");
        x.mark(0, false);
        x.bring(1);
        Check.feed(x, "day;");
        x.mark(0, true);
        Check.due("as it was laid last", x.count(8), 2);
        Check.due("the tape", x.count(12), 8);
    }

    private static void marksUndo() {
        Check.sentence("MARKS", "nothing can be undone when one is gone back to");
        CoalHoles x = Check.onTerrace(TERRACE);
        x.bring(0);
        x.bring(0);
        x.mark(0, false);
        Check.due("when it is laid, all can", x.count(11), 2);
        x.day();
        Check.due("a back that fails", x.mark(1, true), false);
        Check.due("changes nothing", x.count(11), 3);
        x.mark(0, true);
        Check.due("count(11)", x.count(11), 0);
        Check.due("undo()", x.undo(), false);
        Check.due("coal", x.hole(0, 1), 16);
        Check.due("day", x.day(), 2);
        Check.due("what is done behind it can be", x.undo(), true);
        Check.due("and no more", x.undo(), false);
        for (int i = 0; i < 17; i++) {
            x.bring(1);
        }
        x.mark(0, true);
        Check.due("undo()", x.undo(), false);
        Check.due("brought", x.count(8), 2);
    }
}

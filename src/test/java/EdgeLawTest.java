/** The edges of E, the law of whom a hole takes in: the term E, and the FAULTS 1 and 5 in it. */
public final class EdgeLawTest {
    public static void main(String[] args) {
        within();
        withinMixed();
        besideOneAnother();
        withinFaults();
        parts();
        whatIsSo();
        compared();
        fromTheLeft();
        bindings();
        wrap();
        left();
        inside();
        same();
        date();
        withoutTakes();
        longest();
        Check.end();
    }

    private static final String TERRACE = "hole a flag 7 coal 10 burns 0;guest p plain flag 7;guest q plain flag 8;takes ";

    /** Bits: 1, one of the hole's flag is taken; 2, one of another flag. */
    private static int taken(String law) {
        return Check.onTerrace(TERRACE + law + ";").hole(0, 5);
    }

    private static void isSo(String law) {
        Check.due("takes " + law, taken(law), 3);
    }

    private static void isNotSo(String law) {
        Check.due("takes " + law, taken(law), 0);
    }

    private static void within() {
        Check.sentence("E, FAULTS 5", "no PART lies within 5 of not and ( )");
        for (int many = 0; many <= 4; many++) {
            isSo("(".repeat(many) + "1" + ")".repeat(many));
            isSo("not ".repeat(many) + (many + 1) % 2);
            isSo("(".repeat(many) + "left" + ")".repeat(many));
            Check.due("so many not of same", taken("not ".repeat(many) + "same"), many % 2 == 0 ? 1 : 2);
        }
        for (String part : new String[] {"1", "9999", "left", "inside", "same", "date", "not", "("}) {
            Check.fault(5, "takes (((((", part, ")))));");
            Check.fault(5, "takes not not not not not ", part, ";");
        }
        Check.told("takes ((((1))));");
        Check.told("takes not not not not 1;");
        Check.fault(5, "takes (((((", "(", "1))))));");
        Check.fault(5, "takes not not not not not ", "not", " 1;");
    }

    /** All rows of not and (, as long as can be and longer by one and by two. */
    private static void withinMixed() {
        Check.sentence("E, FAULTS 5", "not, or a PART, within 5 others");
        for (int many = 3; many <= 6; many++) {
            for (int row = 0; row < 1 << many; row++) {
                StringBuilder ahead = new StringBuilder("takes ");
                StringBuilder behind = new StringBuilder();
                int sixth = 0;
                for (int i = 0; i < many; i++) {
                    sixth = i < 5 ? sixth : ahead.length();
                    boolean isBracket = (row >> i & 1) != 0;
                    ahead.append(isBracket ? "(" : "not ");
                    behind.append(isBracket ? ")" : "");
                }
                String text = ahead + "1" + behind + ";";
                int due = many < 5 ? 0 : Check.fault(5, many == 5 ? ahead.length() : sixth);
                Check.due("terrace() of " + text, Check.terrace(new CoalHoles(), text), due);
            }
        }
    }

    private static void besideOneAnother() {
        Check.sentence("E", "what lies beside a PART, not around it, does not count");
        isSo("((((1))))+((((1))))*((((1))))");
        isSo("not not not not 1+not not not not 1");
        isSo("((1)+(((1))))and((((1))))");
        isSo("(((1+(1))))or not not not (0)");
        Check.told("takes (((1)+(1)+((1)))<(1));");
        Check.fault(5, "takes ((((1))))+(((((", "1", ")))));");
        Check.fault(5, "takes ((((1+(", "1", ")))));");
        Check.told("takes (((1+(1))));");
        Check.fault(5, "takes ((((1+not ", "1", "))));");
        Check.told("takes (((1+not 1)));");
        Check.fault(5, "takes not (not 1+not (not ", "1", "));");
        Check.told("takes not (not 1+not (1));");
    }

    private static void withinFaults() {
        Check.sentence("FAULTS", "1 ahead of 5: what is no PART can't stand there, however deep");
        for (String stray : new String[] {")", ";", "coal", "and", "a", "*", "<", "10000", "abcdefghi", "?"}) {
            Check.fault(1, "takes ((((", stray, "))));");
            Check.fault(1, "takes (((((", stray, ")))));");
            Check.fault(1, "takes not not not not not ", stray, ";");
        }
        Check.fault(1, "takes (((((", "", "");
    }

    private static void parts() {
        Check.sentence("E, FAULTS 1", "PART: a NUMBER, a fact, not PART, ( E )");
        for (String part : new String[] {"0", "9999", "left", "inside", "same", "date", "not 1", "(1)"}) {
            Check.told("takes " + part + ";");
        }
        for (String stray : new String[] {"lefts", "lef", "insid", "insides", "sam", "dates", "coal", "flag", "day", "cat",
            "or", "and", ")", "-", "+", "*", "<", "=", ";", "10000"}) {
            for (String ahead : new String[] {"takes ", "takes not ", "takes (", "takes 1*", "takes 1+", "takes 1<", "takes 1=",
                "takes 1 and ", "takes 1 or "}) {
                Check.fault(1, ahead, stray, ";");
            }
        }
        for (String stray : new String[] {"1", "left", "not", "(", ")", "takes", "a"}) {
            Check.fault(1, "takes 1 ", stray, " 1;");
            Check.fault(1, "takes (left) ", stray, " 1;");
            Check.fault(1, "takes not same ", stray, " 1;");
        }
        Check.fault(1, "takes (", ")", ";");
        Check.fault(1, "takes (1", ";", "");
        Check.fault(1, "takes ((1)", ";", "");
        Check.told("takes ((1));");
        Check.fault(1, "takes ((1))", ")", ";");
        Check.fault(1, "takes not (1", ";", "");
    }

    private static void whatIsSo() {
        Check.sentence("E", "what is not 0 is so");
        isNotSo("0");
        isSo("1");
        isSo("2");
        isSo("9999");
        isSo("0-1");
        isNotSo("1-1");
        isSo("1-2");
        isSo("256*256*256*128");
        isNotSo("256*256*256*256");
        Check.sentence("E", "of not, and, or, < and = comes 1 or 0");
        for (String yes : new String[] {"not 0", "1 and 1", "2 and 4", "2 and (0-1)", "0 or 4", "4 or 0", "3 or 5", "1<2", "2=2"}) {
            isSo("(" + yes + ")=1");
        }
        for (String no : new String[] {"not 1", "not 2", "not (0-1)", "0 and 4", "4 and 0", "0 and 0", "0 or 0", "2<2", "1=2"}) {
            isSo("(" + no + ")=0");
        }
        isSo("not not 7=1");
    }

    private static void compared() {
        Check.sentence("E", "TEST: SUM, or SUM < SUM, or SUM = SUM");
        Check.dueAt("takes n<10", Check.at(9, 10, 11), n -> taken(n + "<10"), 3, 0, 0);
        Check.dueAt("takes 10<n", Check.at(9, 10, 11), n -> taken("10<" + n), 0, 0, 3);
        Check.dueAt("takes n=10", Check.at(9, 10, 11), n -> taken(n + "=10"), 0, 3, 0);
        isSo("0-1<0");
        isNotSo("0<0-1");
        isSo("0-2<0-1");
        for (String sign : new String[] {"<", "="}) {
            for (String second : new String[] {"<", "="}) {
                Check.fault(1, "takes 1" + sign + "2", second, "3;");
                Check.fault(1, "takes 1" + sign + "2+3*4", second, "3;");
                Check.fault(1, "takes (1" + sign + "2", second, "3);");
                Check.fault(1, "takes 0 or 1" + sign + "2", second, "3;");
                Check.told("takes (1" + sign + "2)" + second + "3;");
                Check.told("takes 1" + sign + "(2" + second + "3);");
                Check.told("takes 1" + sign + "2 and 3" + second + "4;");
                Check.told("takes (1" + sign + "2)" + second + "(3" + sign + "4);");
                Check.fault(1, "takes (1" + sign + "2)" + second + "(3" + sign + "4)", sign, "5;");
            }
        }
    }

    private static void fromTheLeft() {
        Check.sentence("E", "TEST { and TEST or or TEST }, from the left");
        isNotSo("1 or 1 and 0");
        isSo("1 or (1 and 0)");
        isSo("0 and 0 or 1");
        isNotSo("0 and (0 or 1)");
        isNotSo("1 or 0 and 0");
        isSo("1 and 0 or 1");
        isNotSo("1 or 1 or 1 and 0");
        isSo("0 and 0 and 0 or 1");
        Check.sentence("E", "SUM: PRODUCT { + or - PRODUCT }, from the left");
        isSo("9-3-2=4");
        isSo("9-(3-2)=8");
        isSo("9-3+2=8");
        isSo("9-(3+2)=4");
        isSo("1-1-1<0");
    }

    private static void bindings() {
        Check.sentence("E", "PRODUCT ahead of SUM, SUM ahead of TEST, TEST ahead of and, or; not takes a PART");
        isSo("1+2*3=7");
        isSo("2*3+1=7");
        isSo("(1+2)*3=9");
        isSo("10-2*3=4");
        isSo("1+1=2");
        isSo("2=1+1");
        isSo("1<1+1");
        isNotSo("1+1<1+1");
        isNotSo("1<2 and 2<1");
        isSo("1<2 or 2<1");
        isSo("2=2 and 3");
        isNotSo("not 1=2");
        isSo("not (1=2)");
        isNotSo("not 0*0");
        isSo("not (0*0)");
        isSo("not 0+1=2");
        isNotSo("not (0+1)=2");
        isSo("3*not 0=3");
        isSo("0=not 5");
        isNotSo("not 1 and 0");
        isSo("not (1 and 0)");
    }

    private static void wrap() {
        Check.sentence("E", "ints wrap");
        String half = "256*256*256*128";
        isSo(half + "<0");
        isNotSo(half + "-1<0");
        isSo("0<" + half + "-1");
        isSo(half + "-1+1<0");
        isSo(half + "=0-" + half);
        isSo("0<0-" + half + "-1");
        isSo(half + "+" + half + "=0");
        isSo("256*256*256*256=0");
        isSo("9999*9999*9999<0");
        isSo("9999*9999*9999=0-9999*9999*9999*(0-1)");
    }

    private static void left() {
        Check.sentence("E", "left: the coal of the HOLE");
        CoalHoles x = Check.onTerrace("hole a flag 1 coal 12 burns 1;hole b flag 1 coal 10 burns 0;guest p plain flag 1;sack 1;"
            + "takes left=11;");
        Check.dueAt("12, 11, 10 left behind days", Check.at(0, 1, 2), days -> {
            int taken = x.hole(0, 5);
            x.day();
            return taken;
        }, 0, 1, 0);
        Check.due("10 left", x.hole(1, 5), 0);
        x.bring(1);
        Check.due("11 left", x.hole(1, 5), 1);
        x.bring(1);
        Check.due("12 left", x.hole(1, 5), 0);
    }

    private static void inside() {
        Check.sentence("E", "inside: how many GUESTS are in it");
        for (int many = 0; many <= 4; many++) {
            CoalHoles x = Check.onTerrace("hole a flag 1 coal 9 burns 0;hole b flag 1 coal 9 burns 0;guest k cat flag 1;"
                + "guest l cat flag 1;guest m cat flag 1;guest n cat flag 1;guest p plain flag 1;takes inside=" + many + ";");
            for (int inside = 0; inside <= 4; inside++) {
                Check.due(inside + " inside, takes inside=" + many, x.hole(0, 5) >> 4, inside == many ? 1 : 0);
                Check.due("not those in another", x.hole(1, 5) >> 4, many == 0 ? 1 : 0);
                x.down(inside, 0);
            }
        }
    }

    private static void same() {
        Check.sentence("E", "same (1: the GUEST has its flag)");
        CoalHoles x = Check.onTerrace("hole a flag 5 coal 9 burns 0;guest p plain flag 4;guest q plain flag 5;"
            + "guest r plain flag 6;guest s wanted flag 5;takes same;");
        Check.due("takes same", x.hole(0, 5), 10);
        Check.due("takes same=1", taken("same=1"), 1);
        Check.due("takes same=0", taken("same=0"), 2);
        Check.due("takes same<2", taken("same<2"), 3);
        Check.due("takes same+1=2", taken("same+1=2"), 1);
    }

    private static void date() {
        Check.sentence("E", "date: the day's number");
        CoalHoles x = Check.onTerrace(TERRACE + "date=0 or date=13;");
        for (int date = 0; date <= 15; date++) {
            Check.due("date " + date, x.hole(0, 5), date == 0 || date == 13 ? 3 : 0);
            x.day();
        }
        x.undo();
        x.undo();
        x.undo();
        Check.due("13 again", x.hole(0, 5), 3);
    }

    private static void withoutTakes() {
        Check.sentence("E", "without takes: inside * 4 < left");
        for (int inside = 0; inside <= 4; inside++) {
            for (int coal = Math.max(0, 4 * inside - 1); coal <= 4 * inside + 2; coal++) {
                CoalHoles x = Check.onTerrace("hole a flag 1 coal " + coal + " burns 0;guest k cat flag 1;guest l cat flag 1;"
                    + "guest m cat flag 1;guest n cat flag 1;guest p plain flag 1;");
                for (int cat = 0; cat < inside; cat++) {
                    x.down(cat, 0);
                }
                Check.due(inside + " inside, " + coal + " left", x.hole(0, 5) >> 4, coal > 4 * inside ? 1 : 0);
                Check.due("by hand, too", x.down(4, 0), coal > 4 * inside);
            }
        }
    }

    private static void longest() {
        Check.sentence("E, TAPE", "as long as the tape holds");
        int room = 1000 - TERRACE.length() - ";".length();
        String ones = "1" + "+1".repeat((room - 6) / 2);
        int sum = 1 + (room - 6) / 2;
        String law = ones + "=0" + sum;
        law = law.length() < room ? law + " ".repeat(room - law.length()) : law;
        Check.due("1,000 signs", (TERRACE + law + ";").length(), 1000);
        isSo(law);
        Check.due("one sign more: the ; is left out", Check.terrace(new CoalHoles(), TERRACE + law + " ;"),
            Check.fault(1, 1000));
        isNotSo(ones + "=" + (sum - 1));
        isNotSo(ones + "=" + (sum + 1));
        String deep = "0 or 0<0+1*1";
        for (int level = 0; level < 4; level++) {
            deep = "0 or 0<0+1*(" + deep + ")";
        }
        isSo(deep);
        isSo(deep.replace("*(", "*(0+").replace("1*1", "1*1*1"));
        isNotSo(deep.replace("1*1", "1*0"));
    }
}

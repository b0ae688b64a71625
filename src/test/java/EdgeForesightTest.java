/** The edges of what will be: LASTS, SAFE, REFUGE, SACKS, LODGING, LINE, COLDER; promises 14 to 18, 22, 26. */
public final class EdgeForesightTest {
    /** One cold day in three: n coal of a hole that burns 1 last 3 * n days. */
    private static final String SLOW = "cold 0 0 1;";

    public static void main(String[] args) {
        lasts();
        lastsLong();
        safe();
        safeLong();
        refuge();
        refugeLongest();
        refugeNone();
        sacksDays();
        sacksThree();
        sacksNinetyNine();
        sacksRows();
        sacksNobodyMore();
        lodgingArguments();
        lodgingFewest();
        lodgingMost();
        lodgingFirst();
        lodgingTakes();
        lodgingNobody();
        line();
        lineLong();
        lineArguments();
        colder();
        colderArguments();
        Check.end();
    }

    private static final int[] FAR = {Integer.MIN_VALUE, -2, -1, 2, 3, 5, 32, Integer.MAX_VALUE};

    private static void lasts() {
        Check.sentence("LASTS, Promise 14", "behind how many DAYS it has no coal (0: it has none); NONE: others");
        Check.dueAt("coal, burning 3", Check.at(0, 1, 2, 3, 4, 6, 7), coal ->
            Check.onTerrace("hole a flag 1 coal " + coal + " burns 3;").lasts(0), 0, 1, 1, 1, 2, 2, 3);
        CoalHoles x = Check.onTerrace("hole a flag 1 coal 2 burns 1;hole b flag 1 coal 9 burns 2;cold 0 2;");
        Check.dueAt("lasts", FAR, x::lasts, -1, -1, -1, -1, -1, -1, -1, -1);
        Check.due("lasts(0)", x.lasts(0), 2);
        Check.due("lasts(1)", x.lasts(1), 6);
        x.day();
        Check.due("a day less", x.lasts(0), 1);
        Check.due("a day less", x.lasts(1), 5);
        x.day();
        Check.due("it has none", x.lasts(0), 0);
        x.day();
        Check.due("it has none", x.lasts(0), 0);
        x.bring(0);
        Check.due("5, behind days of 2, 0, 2, 0, 2", x.lasts(0), 5);
        Check.due("no hole", new CoalHoles().lasts(0), -1);
    }

    private static void lastsLong() {
        Check.sentence("LASTS, Promise 14", "0 to 99; NONE: longer than 99");
        // Burning one each day: 60 and sacks of 1 make any number up to 99.
        CoalHoles x = Check.onTerrace("hole a flag 1 coal 60 burns 1;sack 1;");
        for (int coal = 61; coal <= 99; coal++) {
            Check.due("bring", x.bring(0), coal);
            Check.due("so many days", x.lasts(0), coal);
        }
        for (int[] c : new int[][] {{32, 96}, {33, 99}, {34, -1}, {60, -1}}) {
            Check.due(c[0] + " coal, one in three days",
                Check.onTerrace("hole a flag 1 coal " + c[0] + " burns 1;" + SLOW).lasts(0), c[1]);
        }
        CoalHoles z = Check.onTerrace("hole a flag 1 coal 34 burns 1;hole b flag 1 coal 1 burns 0;" + SLOW);
        Check.dueAt("102, 101, 100, 99, 98 days", Check.at(102, 101, 100, 99, 98), days -> {
            int lasts = z.lasts(0);
            z.day();
            return lasts;
        }, -1, -1, -1, 99, 98);
        Check.due("it burns none", z.lasts(1), -1);
        Check.due("there is no cold", Check.onTerrace("hole a flag 1 coal 1 burns 9;cold 0;").lasts(0), -1);
    }

    private static void safe() {
        Check.sentence("SAFE, Promise 15", "of a GUEST who is in a HOLE: behind how many DAYS he is in it no more; NONE: others,"
            + " in the street");
        CoalHoles x = Check.onTerrace("hole a flag 1 coal 2 burns 1;hole b flag 1 coal 60 burns 0;guest p plain flag 1;"
            + "guest w wanted flag 1;guest e envoy flag 1;guest k cat flag 1;guest q plain flag 1;takes 1;");
        Check.dueAt("in the street", Check.at(Integer.MIN_VALUE, -1, 0, 1, 2, 3, 4, 5, Integer.MAX_VALUE), x::safe,
            -1, -1, -1, -1, -1, -1, -1, -1, -1);
        for (int guest = 0; guest < 4; guest++) {
            x.down(guest, 0);
        }
        x.down(4, 1);
        Check.dueAt("two days", Check.at(-1, 0, 1, 2, 3, 4, 5), x::safe, -1, 2, 2, 2, -1, -1, -1);
        x.day();
        Check.dueAt("one day", Check.at(-1, 0, 1, 2, 3, 4, 5), x::safe, -1, 1, 1, 1, -1, -1, -1);
        x.day();
        Check.dueAt("put out", Check.at(-1, 0, 1, 2, 3, 4, 5), x::safe, -1, -1, -1, -1, -1, -1, -1);
        Check.due("the cat is in it", x.guest(3, 2), 0);
        x.undo();
        x.undo();
        x.up(0);
        Check.due("climbed out", x.safe(0), -1);
    }

    private static void safeLong() {
        Check.sentence("SAFE, Promise 15", "1 to 99; NONE: longer than 99");
        CoalHoles x = Check.onTerrace("hole a flag 1 coal 34 burns 1;guest p plain flag 1;guest w wanted flag 1;" + SLOW);
        x.down(0, 0);
        x.down(1, 0);
        Check.dueAt("102, 101, 100, 99, 98 days", Check.at(102, 101, 100, 99, 98), days -> {
            int safe = x.safe(0);
            Check.due("the other one", x.safe(1), safe);
            x.day();
            return safe;
        }, -1, -1, -1, 99, 98);
        for (int[] c : new int[][] {{32, 96}, {33, 99}, {34, -1}}) {
            CoalHoles y = Check.onTerrace("hole a flag 1 coal " + c[0] + " burns 1;guest e envoy flag 1;" + SLOW);
            y.down(0, 0);
            Check.due(c[0] + " coal", y.safe(0), c[1]);
        }
    }

    private static int refugeOf(String coals, String end) {
        StringBuilder s = new StringBuilder();
        String[] each = coals.split(" ");
        for (int i = 0; i < each.length; i++) {
            String[] pair = each[i].split("/");
            s.append("hole ").append((char) ('a' + i)).append(" flag 1 coal ").append(pair[0]).append(" burns ").append(pair[1])
                .append(";");
        }
        return Check.onTerrace(s + "guest p plain flag 1;" + end).refuge(0);
    }

    private static void refuge() {
        Check.sentence("REFUGE", "the one where he would be SAFE the longest; of equal ones the first");
        Check.due("one", refugeOf("1/1", ""), 0);
        Check.due("the longer", refugeOf("1/1 2/1", ""), 1);
        Check.due("the longer", refugeOf("2/1 1/1", ""), 0);
        Check.due("equal", refugeOf("2/1 2/1", ""), 0);
        Check.due("equal, behind a shorter one", refugeOf("1/1 2/1 2/1", ""), 1);
        Check.due("by days, not by coal", refugeOf("9/9 2/1", ""), 1);
        Check.due("by days, not by coal: equal", refugeOf("18/9 2/1 3/2", ""), 0);
        Check.due("the last of five", refugeOf("1/1 2/1 3/1 4/1 5/1", ""), 4);
        Check.due("one without coal", refugeOf("0/0 1/9", ""), 1);
    }

    private static void refugeLongest() {
        Check.sentence("REFUGE", "for ever is the longest");
        Check.due("for ever", refugeOf("60/1 1/0", ""), 1);
        Check.due("for ever, the first", refugeOf("60/1 1/0 60/0", ""), 1);
        Check.due("for ever, ahead", refugeOf("1/0 60/1", ""), 0);
        Check.due("99 and for ever", refugeOf("33/1 1/0", SLOW), 1);
        Check.due("96 and 99", refugeOf("32/1 33/1", SLOW), 1);
        Check.due("99 and 102", refugeOf("33/1 34/1", SLOW), 1);
        Check.due("102 and 99", refugeOf("34/1 33/1", SLOW), 0);
        Check.due("99 and 99", refugeOf("33/1 33/1", SLOW), 0);
        Check.due("no cold", refugeOf("1/9 60/0", "cold 0;"), 0);
        CoalHoles x = Check.onTerrace("hole a flag 1 coal 0 burns 1;hole b flag 1 coal 60 burns 1;guest k cat flag 1;");
        Check.due("a cat, for ever in the first", x.refuge(0), 0);
    }

    private static void refugeNone() {
        Check.sentence("REFUGE, Promise 16", "NONE: others, not in the street, SEIZED, none TAKES him");
        CoalHoles x = Check.onTerrace("hole a flag 1 coal 9 burns 1;hole b flag 2 coal 9 burns 2;guest p plain flag 1;"
            + "guest w wanted flag 2;takes same;");
        Check.dueAt("refuge", FAR, x::refuge, -1, -1, -1, -1, -1, -1, -1, -1);
        Check.dueAt("those that take them", Check.at(0, 1), x::refuge, 0, 1);
        x.down(0, 0);
        Check.due("not in the street", x.refuge(0), -1);
        x.up(0);
        Check.due("in the street again", x.refuge(0), 0);
        x.day();
        Check.due("seized", x.refuge(1), -1);
        Check.days(x, 7);
        Check.due("a coal is left", x.refuge(0), 0);
        x.day();
        Check.due("none takes him", x.refuge(0), -1);
        Check.due("no hole", Check.onTerrace("guest p plain flag 1;").refuge(0), -1);
        Check.due("by war", foeBelow(19), -1);
        Check.due("by war, with a line in the slack", foeBelow(20), 0);
    }

    private static int foeBelow(int coal) {
        CoalHoles x = Check.onTerrace("hole a flag 1 coal " + coal + " burns 1;guest p plain flag 1;guest q plain flag 2;war 1 2;");
        x.down(1, 0);
        return x.refuge(0);
    }

    private static CoalHoles wantedIn(int coal, int burns, int sack) {
        CoalHoles x = Check.onTerrace("hole a flag 1 coal " + coal + " burns " + burns + ";guest w wanted flag 1;sack " + sack + ";");
        x.down(0, 0);
        return x;
    }

    private static void sacksDays() {
        Check.sentence("SACKS, Promise 17", "behind so many DAYS (1 to 30); what NONE, i; -2: others");
        CoalHoles x = wantedIn(30, 1, 1);
        Check.dueAt("sacks(days, NONE)", Check.at(Integer.MIN_VALUE, -1, 0, 1, 2, 28, 29, 30, 31, 32, Integer.MAX_VALUE),
            days -> x.sacks(days, -1), -2, -2, -2, 0, 0, 0, 0, 1, -2, -2, -2);
        Check.dueAt("sacks(days, 0)", Check.at(Integer.MIN_VALUE, -1, 0, 1, 2, 28, 29, 30, 31, 32, Integer.MAX_VALUE),
            days -> x.sacks(days, 0), -2, -2, -2, 0, 0, 0, 0, 1, -2, -2, -2);
        Check.dueAt("sacks(30, what)", Check.at(Integer.MIN_VALUE, -3, -2, -1, 0, 1, 2, 5, Integer.MAX_VALUE),
            what -> x.sacks(30, what), -2, -2, -2, 1, 1, -2, -2, -2, -2);
        CoalHoles y = Check.onTerrace("guest p plain flag 1;");
        Check.dueAt("no holes", Check.at(-2, -1, 0, 1), what -> y.sacks(30, what), -2, 0, -2, -2);
    }

    private static void sacksThree() {
        Check.sentence("SACKS", "the fewest, at most 3 to each; -2: by none");
        CoalHoles x = wantedIn(4, 1, 2);
        // 4, 6, 8, 10 coal: so many days less one.
        Check.dueAt("sacks(days, NONE)", Check.at(3, 4, 5, 6, 7, 8, 9, 10), days -> x.sacks(days, -1), 0, 1, 1, 2, 2, 3, 3, -2);
        Check.dueAt("sacks(days, 0)", Check.at(3, 4, 5, 6, 7, 8, 9, 10), days -> x.sacks(days, 0), 0, 1, 1, 2, 2, 3, 3, -2);
        Check.due("nothing is brought", x.count(8) + x.count(11), 1);
        Check.due("nothing is brought", x.hole(0, 1), 4);
    }

    private static void sacksNinetyNine() {
        Check.sentence("SACKS, BRING", "a HOLE has 99 coal at most");
        // 60 coal and sacks of 20: 80, 99, 99; it burns 4: 15, 20, 24 days.
        Check.dueAt("sacks(days, NONE)", Check.at(14, 15, 19, 20, 24, 25), days -> wantedIn(60, 4, 20).sacks(days, -1),
            0, 1, 1, 2, 2, -2);
        // 60, 80, 99, 99; it burns 7 or 9: 98 in 14 days, 99 in 11.
        Check.dueAt("sacks(days, NONE)", Check.at(13, 14, 15), days -> wantedIn(60, 7, 20).sacks(days, -1), 2, 2, -2);
        Check.dueAt("sacks(days, NONE)", Check.at(10, 11, 12), days -> wantedIn(60, 9, 20).sacks(days, -1), 2, -2, -2);
        // 50 and sacks of 17: 67, 84, 99.
        Check.dueAt("sacks(days, NONE)", Check.at(20, 21, 24, 25), days -> wantedIn(50, 4, 17).sacks(days, -1), 2, 3, 3, -2);
    }

    private static void sacksRows() {
        Check.sentence("SACKS", "to whichever HOLES: how many; how many to each");
        CoalHoles x = Check.onTerrace("hole a flag 1 coal 4 burns 1;hole b flag 1 coal 1 burns 1;hole c flag 1 coal 9 burns 3;"
            + "hole d flag 1 coal 60 burns 0;hole e flag 1 coal 1 burns 9;guest v wanted flag 1;guest w wanted flag 1;"
            + "guest u wanted flag 1;guest p plain flag 1;guest k cat flag 1;sack 4;takes 1;");
        x.down(0, 0);
        x.down(1, 2);
        x.down(2, 3);
        x.down(3, 1);
        x.down(4, 4);
        int[][] due = {{1, 0, 0, 0}, {2, 0, 0, 0}, {3, 1, 0, 1}, {4, 2, 1, 1}, {5, 3, 1, 2}, {6, 4, 1, 3}, {7, -2, -2, -2}};
        for (int[] row : due) {
            Check.dueAt("sacks(" + row[0] + ", what)", Check.at(-2, -1, 0, 1, 2, 3, 4, 5), what -> x.sacks(row[0], what),
                -2, row[1], row[2], Math.min(0, row[1]), row[3], Math.min(0, row[1]), Math.min(0, row[1]), -2);
        }
    }

    private static void sacksNobodyMore() {
        Check.sentence("SACKS", "nobody more is SEIZED");
        CoalHoles x = Check.onTerrace("hole a flag 1 coal 9 burns 1;guest w wanted flag 1;guest p plain flag 1;");
        Check.due("one is in the street: by none", x.sacks(1, -1), -2);
        Check.due("one is in the street: by none", x.sacks(1, 0), -2);
        x.down(1, 0);
        x.day();
        Check.due("seized already: nobody more", x.sacks(1, -1), 0);
        Check.due("plain ones count for nothing", x.sacks(30, -1), 0);
        CoalHoles y = Check.onTerrace("hole a flag 1 coal 9 burns 1;guest p plain flag 1;guest e envoy flag 1;guest k cat flag 1;");
        Check.due("nobody is wanted", y.sacks(30, -1), 0);
        Check.due("nobody is wanted", y.sacks(30, 0), 0);
    }

    private static void lodgingArguments() {
        Check.sentence("LODGING, Promise 18", "behind so many DAYS (1 to 30); guest NONE, each; -2: others");
        CoalHoles x = Check.onTerrace("hole a flag 1 coal 30 burns 1;guest w wanted flag 1;");
        Check.dueAt("lodging(days, NONE)", Check.at(Integer.MIN_VALUE, -1, 0, 1, 2, 28, 29, 30, 31, 32, Integer.MAX_VALUE),
            days -> x.lodging(days, -1), -2, -2, -2, 0, 0, 0, 0, 1, -2, -2, -2);
        Check.dueAt("lodging(days, 0)", Check.at(Integer.MIN_VALUE, -1, 0, 1, 2, 28, 29, 30, 31, 32, Integer.MAX_VALUE),
            days -> x.lodging(days, 0), -2, -2, -2, 0, 0, 0, 0, 0, -2, -2, -2);
        Check.dueAt("lodging(30, guest)", Check.at(Integer.MIN_VALUE, -3, -2, -1, 0, 1, 2, 5, Integer.MAX_VALUE),
            guest -> x.lodging(30, guest), -2, -2, -2, 1, 0, -2, -2, -2, -2);
    }

    private static void lodgingFewest() {
        Check.sentence("LODGING", "by which the fewest are SEIZED: how many, in all");
        // One place: the wanted one has it, though he comes last.
        Check.lodgings(Check.onTerrace("hole a flag 1 coal 9 burns 0;guest p plain flag 1;guest e plain flag 1;guest w wanted flag 1;"
            + "takes inside<1;"), 9, 0, -1, -1, 0);
        // Two who are at war with one: the two are let down, or the one.
        Check.lodgings(Check.onTerrace("hole a flag 1 coal 9 burns 0;guest u wanted flag 1;guest v wanted flag 2;guest w wanted flag 2;"
            + "war 1 2;takes 1;"), 1, 1, -1, 0, 0);
        Check.lodgings(Check.onTerrace("hole a flag 1 coal 9 burns 0;guest p plain flag 1;guest q plain flag 1;guest w wanted flag 2;"
            + "war 1 2;takes 1;"), 1, 0, -1, -1, 0);
        CoalHoles x = Check.onTerrace("hole a flag 1 coal 9 burns 1;hole b flag 1 coal 3 burns 1;guest u wanted flag 1;"
            + "guest v wanted flag 1;guest w wanted flag 1;takes 1;");
        x.down(1, 1);
        x.day();
        x.up(1);
        x.day();
        Check.due("all seized", x.count(7), 7);
        Check.lodgings(x, 1, 3, -1, -1, -1);
        x.undo();
        Check.lodgings(x, 1, 2, -1, 0, -1);
        x.undo();
        Check.lodgings(x, 1, 2, -1, -1, -1);
        Check.lodgings(x, 2, 3, -1, -1, -1);
    }

    private static void lodgingMost() {
        Check.sentence("LODGING", "of equal ones the most are in HOLES then");
        // The first hole goes out; behind 2 days he is in it still, behind 3 no more.
        CoalHoles x = Check.onTerrace("hole a flag 1 coal 3 burns 1;hole b flag 1 coal 60 burns 1;guest p plain flag 1;");
        Check.lodgings(x, 2, 0, 0);
        Check.lodgings(x, 3, 0, 1);
        Check.lodgings(x, 4, 0, 1);
        // Two places, one of them kept by a cat that could sit anywhere.
        Check.lodgings(Check.onTerrace("hole a flag 1 coal 9 burns 0;hole b flag 1 coal 0 burns 0;guest k cat flag 1;guest p plain flag 1;"
            + "takes inside<1;"), 30, 0, 1, 0);
        // One against two: the two, though the first row begins with the one.
        Check.lodgings(Check.onTerrace("hole a flag 1 coal 19 burns 0;guest o plain flag 1;guest p plain flag 2;guest q plain flag 2;"
            + "war 1 2;"), 30, 0, -1, 0, 0);
        Check.lodgings(Check.onTerrace("hole a flag 1 coal 20 burns 0;guest o plain flag 1;guest p plain flag 2;guest q plain flag 2;"
            + "war 1 2;"), 30, 0, 0, 0, 0);
    }

    private static void lodgingFirst() {
        Check.sentence("LODGING", "of equal ones the first row (of HOLES; who stays comes behind all others)");
        Check.lodgings(Check.onTerrace("hole a flag 1 coal 9 burns 0;hole b flag 1 coal 9 burns 0;guest p plain flag 1;guest q plain flag 1;"),
            1, 0, 0, 0);
        Check.lodgings(Check.onTerrace("hole a flag 1 coal 4 burns 0;hole b flag 1 coal 4 burns 0;guest p plain flag 1;guest q plain flag 1;"
            + "guest r plain flag 1;"), 1, 0, 0, 1, -1);
        // All holes go out, so that it is all the same: down into the first ones comes ahead of staying.
        Check.lodgings(Check.onTerrace("hole a flag 1 coal 4 burns 4;hole b flag 1 coal 4 burns 4;guest p plain flag 1;guest w wanted flag 1;"
            + "guest r plain flag 1;"), 1, 1, 0, 1, -1);
        Check.lodgings(Check.onTerrace("hole a flag 2 coal 9 burns 0;hole b flag 1 coal 9 burns 0;guest p plain flag 1;guest q plain flag 2;"
            + "takes same;"), 1, 0, 1, 0);
    }

    private static void lodgingTakes() {
        Check.sentence("LODGING", "by numbers, each into a HOLE that TAKES him then");
        // Only one who comes behind another is taken into the first hole.
        Check.lodgings(Check.onTerrace("hole a flag 1 coal 9 burns 0;guest p plain flag 1;guest k cat flag 1;guest w wanted flag 1;"
            + "takes inside=1;"), 1, 0, -1, 0, 0);
        Check.lodgings(Check.onTerrace("hole a flag 1 coal 9 burns 0;guest w wanted flag 1;guest k cat flag 1;takes inside=1;"), 1, 1, -1, 0);
        Check.lodgings(Check.onTerrace("hole a flag 1 coal 9 burns 0;guest p plain flag 1;guest e envoy flag 1;takes 0;"), 1, 0, -1, 0);
        Check.lodgings(Check.onTerrace("hole a flag 1 coal 0 burns 0;guest e envoy flag 1;guest k cat flag 1;takes 1;"), 1, 0, -1, 0);
        CoalHoles x = Check.onTerrace("hole a flag 1 coal 9 burns 0;guest p plain flag 1;takes date=2;");
        Check.lodgings(x, 1, 0, -1);
        x.day();
        x.day();
        Check.lodgings(x, 1, 0, 0);
        x.day();
        Check.lodgings(x, 1, 0, -1);
    }

    private static void lodgingNobody() {
        Check.sentence("LODGING, Promise 18", "NONE: he stays, is not one of these");
        CoalHoles x = Check.onTerrace("hole a flag 1 coal 9 burns 3;hole b flag 1 coal 60 burns 0;guest p plain flag 1;"
            + "guest v wanted flag 1;guest w wanted flag 1;takes 1;");
        x.down(0, 1);
        x.down(1, 0);
        Check.lodgings(x, 2, 0, -1, -1, 0);
        // v's hole goes out on the third day; w is better off in the other.
        Check.lodgings(x, 3, 1, -1, -1, 1);
        x.day();
        Check.lodgings(x, 1, 1, -1, -1, -1);
        Check.lodgings(x, 2, 2, -1, -1, -1);
        Check.due("nobody has gone", x.count(11), 3);
        Check.lodgings(new CoalHoles(), 1, 0);
        Check.lodgings(Check.onTerrace("guest w wanted flag 1;guest p plain flag 1;"), 1, 1, -1, -1);
    }

    private static CoalHoles foesIn(int coal, int burns, String end) {
        CoalHoles x = Check.onTerrace("hole a flag 1 coal " + coal + " burns " + burns + ";hole b flag 1 coal 20 burns 0;"
            + "guest p cat flag 1;guest q cat flag 2;guest r cat flag 1;war 1 2;sack 1;" + end);
        x.down(0, 0);
        x.down(1, 0);
        return x;
    }

    private static void line() {
        Check.sentence("LINE", "behind how many DAYS it has less than 20 coal (0: now)");
        Check.dueAt("coal, burning 1", Check.at(0, 18, 19, 20, 21, 22, 60), coal -> foesIn(coal, 1, "").line(0, 1),
            0, 0, 0, 1, 2, 3, 41);
        Check.dueAt("coal, burning 3", Check.at(19, 20, 22, 23, 24), coal -> foesIn(coal, 3, "").line(0, 1), 0, 1, 1, 2, 2);
        CoalHoles x = foesIn(21, 1, "cold 0 1;");
        Check.due("21", x.line(0, 1), 4);
        x.day();
        Check.due("a day less", x.line(1, 0), 3);
        x.bring(0);
        Check.due("with a sack more", x.line(0, 1), 5);
    }

    private static void lineLong() {
        Check.sentence("LINE, Promise 22", "NONE: longer than 99");
        for (int[] c : new int[][] {{51, 96}, {52, 99}, {53, -1}}) {
            Check.due(c[0] + " coal, one in three days", foesIn(c[0], 1, SLOW).line(0, 1), c[1]);
        }
        CoalHoles x = foesIn(53, 1, SLOW);
        Check.dueAt("102, 101, 100, 99, 98 days", Check.at(102, 101, 100, 99, 98), days -> {
            int line = x.line(0, 1);
            x.day();
            return line;
        }, -1, -1, -1, 99, 98);
        Check.due("it burns none", foesIn(20, 0, "").line(0, 1), -1);
        Check.due("it burns none, and has less", foesIn(19, 0, "").line(0, 1), 0);
    }

    private static void lineArguments() {
        Check.sentence("LINE, Promise 22", "NONE: others, not at WAR, not in one HOLE");
        CoalHoles x = foesIn(25, 1, "");
        Check.due("at war, in one hole", x.line(0, 1), 6);
        Check.due("in the street", x.line(1, 2), -1);
        x.down(2, 0);
        Check.due("at war, in one hole", x.line(1, 2), 6);
        Check.due("not at war", x.line(0, 2), -1);
        Check.due("not with himself", x.line(0, 0), -1);
        x.up(1);
        Check.due("one is in the street", x.line(0, 1), -1);
        x.down(1, 1);
        Check.due("in two holes", x.line(0, 1), -1);
        x.up(0);
        x.up(1);
        Check.due("both in the street", x.line(0, 1), -1);
        x.down(0, 0);
        x.down(1, 0);
        for (int other : new int[] {Integer.MIN_VALUE, -2, -1, 3, 4, 5, 32, 33, Integer.MAX_VALUE}) {
            Check.due("line(0, " + other + ")", x.line(0, other), -1);
            Check.due("line(1, " + other + ")", x.line(1, other), -1);
            Check.due("line(" + other + ", 1)", x.line(other, 1), -1);
            Check.due("line(" + other + ", " + other + ")", x.line(other, other), -1);
        }
    }

    private static void colder() {
        Check.sentence("COLDER", "GUESTS who would be SEIZED, or are, behind so many DAYS, if each were colder by so much");
        CoalHoles x = Check.onTerrace("hole a flag 1 coal 30 burns 1;hole b flag 1 coal 60 burns 0;guest v wanted flag 1;"
            + "guest w wanted flag 1;guest u wanted flag 1;guest p plain flag 1;guest k cat flag 1;takes 1;cold 0 1;");
        x.down(0, 0);
        x.down(1, 1);
        x.down(3, 0);
        x.down(4, 0);
        // u is in the street. 30 coal: by 0 more 15 in 30 days, by 1 more 1, 2, 1, 2 .., by 2 more 2, 3 .., by 3 more 3, 4 ..
        Check.dueAt("colder(days, 0)", Check.at(1, 29, 30), days -> x.colder(days, 0), 4, 4, 4);
        Check.dueAt("colder(days, 1)", Check.at(1, 19, 20, 21, 30), days -> x.colder(days, 1), 4, 4, 5, 5, 5);
        Check.dueAt("colder(days, 2)", Check.at(11, 12, 13), days -> x.colder(days, 2), 4, 5, 5);
        Check.dueAt("colder(days, 3)", Check.at(8, 9, 10), days -> x.colder(days, 3), 4, 5, 5);
        x.day();
        Check.due("u is seized", x.count(7), 4);
        Check.dueAt("from the second day: 2, 1 ..", Check.at(18, 19, 20, 21), days -> x.colder(days, 1), 4, 4, 5, 5);
        Check.due("as it was", x.hole(0, 1) + x.count(3) + x.count(11), 30 + 1 + 5);
        CoalHoles y = Check.onTerrace("hole a flag 1 coal 60 burns 1;guest w wanted flag 1;cold 3;");
        y.down(0, 0);
        Check.dueAt("colder than 3: by 1", Check.at(14, 15), days -> y.colder(days, 1), 0, 1);
        Check.dueAt("colder than 3: by 3", Check.at(9, 10), days -> y.colder(days, 3), 0, 1);
    }

    private static void colderArguments() {
        Check.sentence("COLDER, Promise 26", "DAYS (1 to 30), so much (0 to 3); NONE: others");
        CoalHoles x = Check.onTerrace("hole a flag 1 coal 30 burns 1;guest w wanted flag 1;");
        x.down(0, 0);
        Check.dueAt("colder(days, 0)", Check.at(Integer.MIN_VALUE, -1, 0, 1, 2, 29, 30, 31, 32, Integer.MAX_VALUE),
            days -> x.colder(days, 0), -1, -1, -1, 0, 0, 0, 1, -1, -1, -1);
        Check.dueAt("colder(9, more)", Check.at(Integer.MIN_VALUE, -2, -1, 0, 1, 2, 3, 4, 5, Integer.MAX_VALUE),
            more -> x.colder(9, more), -1, -1, -1, 0, 0, 0, 1, -1, -1, -1);
        Check.due("nobody", new CoalHoles().colder(30, 3), 0);
    }
}

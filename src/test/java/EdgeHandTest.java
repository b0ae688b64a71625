/** The edges of what is done by hand: WAR, TAKES, DOWN, UP, THROUGH, BRING, DAY, UNDO; promises 5 to 12. */
public final class EdgeHandTest {
    private static final String KINDS = "guest p plain flag 1;guest w wanted flag 1;guest e envoy flag 1;guest k cat flag 1;";

    public static void main(String[] args) {
        coalOrNone();
        lawAndEnvoys();
        lineInTheSlack();
        whoIsAtWar();
        holeArguments();
        holeTakes();
        guestArguments();
        guestFoes();
        down();
        up();
        through();
        throughTakes();
        bring();
        dayBurns();
        dayPutsOut();
        daySeizes();
        dayIsTheNext();
        undoSixteen();
        undoEach();
        undoNothing();
        Check.end();
    }

    private static String hole(int coal, int burns) {
        return "hole a flag 1 coal " + coal + " burns " + burns + ";";
    }

    private static void coalOrNone() {
        Check.sentence("TAKES", "if it has coal; a cat it takes always, with coal or without");
        Check.dueAt("whom a hole of so much coal takes", Check.at(0, 1, 2, 60),
            coal -> Check.onTerrace(hole(coal, 0) + KINDS + "takes 1;").hole(0, 5), 8, 15, 15, 15);
        CoalHoles x = Check.onTerrace(hole(1, 1) + KINDS + "takes 1;sack 1;");
        x.day();
        Check.due("none left", x.hole(0, 5), 8);
        x.bring(0);
        Check.due("one again, the seized one, too", x.hole(0, 5), 15);
    }

    private static void lawAndEnvoys() {
        Check.sentence("TAKES", "the E of takes is not 0 for him (an envoy: always)");
        Check.dueAt("whom it takes by such a law", Check.at(0, 1, 2),
            law -> Check.onTerrace(hole(9, 0) + KINDS + "takes " + law + ";").hole(0, 5), 12, 15, 15);
        Check.due("by -1", Check.onTerrace(hole(9, 0) + KINDS + "takes 0-1;").hole(0, 5), 15);
        CoalHoles x = Check.onTerrace(hole(1, 0) + KINDS + "takes 0;");
        Check.due("an envoy goes down", x.down(2, 0), true);
        Check.due("a plain one does not", x.down(0, 0), false);
        Check.due("a wanted one does not", x.down(1, 0), false);
        Check.due("an envoy without coal", Check.onTerrace(hole(0, 0) + KINDS + "takes 1;").down(2, 0), false);
    }

    private static void lineInTheSlack() {
        Check.sentence("TAKES", "nobody is in it with whom he is at WAR, unless it has 20 coal or more");
        for (int coal : new int[] {1, 18, 19, 20, 21, 60}) {
            CoalHoles x = Check.onTerrace(hole(coal, 0) + "guest f plain flag 2;" + KINDS + "war 2 1;takes 1;");
            Check.due("nobody is in it, coal " + coal, x.hole(0, 5), 31);
            x.down(0, 0);
            Check.due("a foe is in it, coal " + coal, x.hole(0, 5), coal >= 20 ? 30 : 16);
            for (int guest = 1; guest <= 4; guest++) {
                Check.due("down(" + guest + ", 0), coal " + coal, x.down(guest, 0), guest == 4 || coal >= 20);
            }
        }
        CoalHoles y = Check.onTerrace(hole(19, 1) + "guest f cat flag 2;" + KINDS + "war 2 1;takes 1;sack 1;");
        y.down(0, 0);
        Check.due("19, and a cat is a foe", y.hole(0, 5), 16);
        y.bring(0);
        Check.due("20", y.hole(0, 5), 30);
        y.day();
        Check.due("19 again", y.hole(0, 5), 16);
    }

    private static void whoIsAtWar() {
        Check.sentence("WAR", "two GUESTS are at WAR if their flags are");
        CoalHoles x = Check.onTerrace("hole a flag 1 coal 9 burns 0;hole b flag 3 coal 9 burns 0;guest p plain flag 1;"
            + "guest q plain flag 1;guest r plain flag 2;guest s plain flag 3;guest t plain flag 0;war 1 2;war 2 3;takes 1;");
        Check.dueAt("foes in the street", Check.at(0, 1, 2, 3, 4), guest -> x.guest(guest, 4), 4, 4, 11, 4, 0);
        x.down(0, 0);
        Check.due("not r; one's own flag; a foe's foe", x.hole(0, 5), 2 + 8 + 16);
        x.down(2, 1);
        Check.due("foes in another hole don't count", x.hole(0, 5), 2 + 8 + 16);
        Check.due("the hole's own flag doesn't count", x.hole(1, 5), 16);
        Check.due("p is beside no foe", x.guest(0, 4), 0);
    }

    private static void holeArguments() {
        Check.sentence("Promise 5", "NONE: others");
        CoalHoles x = Check.onTerrace("hole a flag 1 coal 7 burns 2;hole b flag 3 coal 4 burns 5;wall a b;" + KINDS);
        Check.dueAt("hole(0, what)", Check.at(Integer.MIN_VALUE, -2, -1, 0, 1, 2, 3, 4, 5, 6, 7, Integer.MAX_VALUE),
            what -> x.hole(0, what), -1, -1, -1, 1, 7, 2, 0, 2, 15, -1, -1, -1);
        for (int what = 0; what <= 5; what++) {
            int w = what;
            Check.dueAt("hole(hole, " + what + ")", Check.at(Integer.MIN_VALUE, -2, -1, 0, 1, 2, 3, 5, 32, Integer.MAX_VALUE),
                hole -> x.hole(hole, w) == -1 ? 0 : 1, 0, 0, 0, 1, 1, 0, 0, 0, 0, 0);
        }
    }

    private static void holeTakes() {
        Check.sentence("Promise 5", "3: GUESTS that are in it; 5: GUESTS, not in it, whom it would TAKE now, SEIZED ones, too");
        CoalHoles x = Check.onTerrace("hole a flag 1 coal 40 burns 1;hole b flag 1 coal 40 burns 1;" + KINDS + "guest l cat flag 1;"
            + "takes 1;");
        Check.due("all are in the street", x.hole(0, 5), 31);
        for (int guest = 0; guest < 5; guest++) {
            x.down(guest, 0);
            Check.due("in it", x.hole(0, 3), (2 << guest) - 1);
            Check.due("not in it", x.hole(0, 5), 31 & ~((2 << guest) - 1));
            Check.due("those of another hole, too", x.hole(1, 5), 31);
            Check.due("nobody", x.hole(1, 3), 0);
        }
        x.up(1);
        x.day();
        Check.due("seized", x.count(7), 2);
        Check.due("in it", x.hole(0, 3), 29);
        Check.due("the seized one", x.hole(0, 5), 2);
        Check.due("but he can't go", x.down(1, 0), false);
    }

    private static void guestArguments() {
        Check.sentence("Promise 6", "-2: others");
        CoalHoles x = Check.onTerrace("hole a flag 1 coal 7 burns 2;hole b flag 1 coal 7 burns 2;guest p envoy flag 6;"
            + "guest q wanted flag 5;war 5 6;takes 1;");
        Check.dueAt("guest(0, what)", Check.at(Integer.MIN_VALUE, -2, -1, 0, 1, 2, 3, 4, 5, 6, Integer.MAX_VALUE),
            what -> x.guest(0, what), -2, -2, -2, 2, 6, -1, 0, 2, -2, -2, -2);
        for (int what = 0; what <= 4; what++) {
            int w = what;
            Check.dueAt("guest(guest, " + what + ")", Check.at(Integer.MIN_VALUE, -2, -1, 0, 1, 2, 3, 5, 32, Integer.MAX_VALUE),
                guest -> x.guest(guest, w) == -2 ? 0 : 1, 0, 0, 0, 1, 1, 0, 0, 0, 0, 0);
        }
        Check.sentence("Promise 6", "2: the HOLE (NONE: the street); 3: 1 SEIZED");
        x.down(0, 0);
        Check.due("the first hole", x.guest(0, 2), 0);
        x.up(0);
        Check.due("the street", x.guest(0, 2), -1);
        x.down(0, 1);
        Check.due("the last hole", x.guest(0, 2), 1);
        Check.due("not seized", x.guest(1, 3), 0);
        x.day();
        Check.due("seized", x.guest(1, 3), 1);
        Check.due("a seized one is in the street", x.guest(1, 2), -1);
        Check.due("others are not", x.guest(0, 3), 0);
    }

    private static void guestFoes() {
        Check.sentence("FOES, Promise 6", "those in the same HOLE, or in the street with him, not SEIZED, with whom he is at WAR");
        CoalHoles x = Check.onTerrace("hole a flag 1 coal 40 burns 0;hole b flag 1 coal 40 burns 0;guest p plain flag 1;"
            + "guest q plain flag 2;guest w wanted flag 2;guest k cat flag 2;guest r plain flag 1;war 1 2;takes 1;");
        Check.dueAt("in the street", Check.at(0, 1, 2, 3, 4), guest -> x.guest(guest, 4), 14, 17, 17, 17, 14);
        x.down(0, 0);
        Check.dueAt("p is down", Check.at(0, 1, 2, 3, 4), guest -> x.guest(guest, 4), 0, 16, 16, 16, 14);
        x.down(1, 0);
        x.down(3, 1);
        Check.dueAt("q with him, k elsewhere", Check.at(0, 1, 2, 3, 4), guest -> x.guest(guest, 4), 2, 1, 16, 0, 4);
        x.day();
        Check.dueAt("w is seized", Check.at(0, 1, 2, 3, 4), guest -> x.guest(guest, 4), 2, 1, 0, 0, 0);
        x.undo();
        Check.dueAt("undone", Check.at(0, 1, 2, 3, 4), guest -> x.guest(guest, 4), 2, 1, 16, 0, 4);
    }

    private static CoalHoles threeHoles() {
        return Check.onTerrace("hole a flag 1 coal 9 burns 1;hole b flag 1 coal 9 burns 1;hole c flag 1 coal 0 burns 1;"
            + "wall a b;wall b c;" + KINDS);
    }

    private static void down() {
        Check.sentence("DOWN, Promise 7", "one who is in the street, not SEIZED, into a HOLE that TAKES him; false: others, it can't be");
        for (int guest : new int[] {Integer.MIN_VALUE, -1, 0, 3, 4, 5, 32, Integer.MAX_VALUE}) {
            for (int hole : new int[] {Integer.MIN_VALUE, -1, 0, 1, 2, 3, 5, 32, Integer.MAX_VALUE}) {
                CoalHoles x = threeHoles();
                boolean can = (guest == 0 || guest == 3) && (hole == 0 || hole == 1 || guest == 3 && hole == 2);
                Check.due("down(" + guest + ", " + hole + ")", x.down(guest, hole), can);
                Check.due("it is so, or as it was", x.count(6), can ? 15 & ~(1 << guest) : 15);
                Check.due("who is inside", can ? x.hole(hole, 3) : 0, can ? 1 << guest : 0);
                Check.due("what can be undone", x.count(11), can ? 1 : 0);
                Check.due("once more", x.down(guest, hole), false);
                Check.due("nor into another", x.down(guest, hole == 0 ? 1 : 0) && can, false);
            }
        }
        CoalHoles y = threeHoles();
        y.day();
        Check.due("a seized one", y.down(1, 0), false);
        Check.due("the others", y.down(0, 0) && y.down(2, 1) && y.down(3, 2), true);
    }

    private static void up() {
        Check.sentence("UP, Promise 8", "one who is in a HOLE climbs out into the street; false: others, not in a HOLE");
        CoalHoles x = threeHoles();
        Check.dueAt("up, in the street", Check.at(-1, 0, 1, 2, 3, 4), guest -> Check.bit(x.up(guest)), 0, 0, 0, 0, 0, 0);
        x.down(0, 0);
        x.down(3, 2);
        Check.dueAt("up", Check.at(Integer.MIN_VALUE, -1, 1, 2, 4, 5, 32, Integer.MAX_VALUE), guest -> Check.bit(x.up(guest)),
            0, 0, 0, 0, 0, 0, 0, 0);
        Check.due("only what was done can be undone", x.count(11), 2);
        Check.dueAt("up, in a hole", Check.at(0, 3), guest -> Check.bit(x.up(guest)), 1, 1);
        Check.dueAt("up, once more", Check.at(0, 3), guest -> Check.bit(x.up(guest)), 0, 0);
        Check.due("all in the street", x.count(6), 15);
        x.day();
        Check.due("a seized one", x.up(1), false);
        x.down(3, 2);
        Check.due("out of a hole without coal", x.up(3), true);
    }

    private static void through() {
        Check.sentence("THROUGH, Promise 9", "one who is in a HOLE goes to one beside it that TAKES him; false: others, it can't be");
        for (int guest : new int[] {Integer.MIN_VALUE, -1, 0, 1, 3, 4, 5, 32, Integer.MAX_VALUE}) {
            for (int hole : new int[] {Integer.MIN_VALUE, -1, 0, 1, 2, 3, 5, 32, Integer.MAX_VALUE}) {
                CoalHoles x = threeHoles();
                x.down(0, 0);
                x.down(3, 1);
                boolean can = guest == 0 && hole == 1 || guest == 3 && (hole == 0 || hole == 2);
                Check.due("through(" + guest + ", " + hole + ")", x.through(guest, hole), can);
                Check.due("what can be undone", x.count(11), can ? 3 : 2);
                Check.due("where", x.guest(0, 2), can && guest == 0 ? 1 : 0);
                Check.due("where", x.guest(3, 2), can && guest == 3 ? hole : 1);
            }
        }
        CoalHoles y = threeHoles();
        y.day();
        Check.due("a seized one", y.through(1, 1), false);
        y.down(3, 0);
        Check.due("not two walls at once", y.through(3, 2), false);
        Check.due("one", y.through(3, 1), true);
        Check.due("and one", y.through(3, 2), true);
        Check.due("and back", y.through(3, 1), true);
    }

    private static void throughTakes() {
        Check.sentence("THROUGH", "to one that TAKES him");
        for (int coal : new int[] {19, 20, 21}) {
            CoalHoles x = Check.onTerrace("hole a flag 1 coal 9 burns 0;hole b flag 1 coal " + coal + " burns 0;wall b a;"
                + "guest p plain flag 1;guest q plain flag 2;war 1 2;");
            x.down(0, 0);
            x.down(1, 1);
            Check.due("to a foe, coal " + coal, x.through(0, 1), coal >= 20);
        }
        for (int coal : new int[] {3, 4, 5}) {
            CoalHoles x = Check.onTerrace("hole a flag 1 coal 9 burns 0;hole b flag 1 coal " + coal + " burns 0;wall b a;"
                + "guest p plain flag 1;guest q plain flag 1;");
            x.down(0, 0);
            x.down(1, 1);
            Check.due("by the law, coal " + coal, x.through(0, 1), coal >= 5);
        }
    }

    private static void bring() {
        Check.sentence("BRING, Promise 10", "a HOLE has a sack more, 99 at most; NONE: others");
        for (int[] c : new int[][] {{58, 20, 78, 98, 99, 99}, {59, 20, 79, 99, 99, 99}, {60, 20, 80, 99, 99, 99},
            {60, 19, 79, 98, 99, 99}, {0, 1, 1, 2, 3, 4}, {0, 20, 20, 40, 60, 80}}) {
            CoalHoles x = Check.onTerrace(hole(c[0], 0) + "sack " + c[1] + ";");
            for (int i = 1; i <= 4; i++) {
                Check.due("sack " + i + " of " + c[1] + " to " + c[0], x.bring(0), c[i + 1]);
                Check.due("coal", x.hole(0, 1), c[i + 1]);
                Check.due("brought, though it may not fit", x.count(8), i);
                Check.due("what can be undone", x.count(11), i);
            }
            x.undo();
            Check.due("undone", x.hole(0, 1), c[4]);
            Check.due("undone", x.count(8), 3);
        }
        CoalHoles y = Check.onTerrace(hole(60, 0) + "sack 1;");
        for (int coal = 61; coal <= 99; coal++) {
            Check.due("bring(0)", y.bring(0), coal);
        }
        Check.due("the hundredth", y.bring(0), 99);
        CoalHoles z = threeHoles();
        Check.dueAt("bring", Check.at(Integer.MIN_VALUE, -2, -1, 3, 4, 5, 32, Integer.MAX_VALUE), z::bring,
            -1, -1, -1, -1, -1, -1, -1, -1);
        Check.due("nothing is brought", z.count(8) + z.count(11), 0);
        Check.dueAt("bring", Check.at(0, 1, 2), z::bring, 14, 14, 5);
        Check.due("without a HOLE", Check.onTerrace(KINDS).bring(0), -1);
    }

    private static void dayBurns() {
        Check.sentence("DAY", "less coal by what it burns, times the cold of that day (0 at least)");
        for (int cold = 0; cold <= 3; cold++) {
            for (int burns : new int[] {0, 1, 2, 8, 9}) {
                for (int more = -1; more <= 1; more++) {
                    int coal = burns * cold + more;
                    if (coal < 0) {
                        continue;
                    }
                    CoalHoles x = Check.onTerrace(hole(coal, burns) + "cold " + cold + ";");
                    x.day();
                    Check.due(coal + " coal, burns " + burns + ", cold " + cold, x.hole(0, 1), Math.max(more, 0));
                    x.day();
                    Check.due("the day behind it", x.hole(0, 1), Math.max(more - burns * cold, 0));
                }
            }
        }
    }

    private static void dayPutsOut() {
        Check.sentence("DAY", "in a HOLE that has none then all but cats are put out into the street");
        for (int coal : new int[] {5, 6, 7}) {
            CoalHoles x = Check.onTerrace(hole(coal, 2) + "hole b flag 1 coal 60 burns 0;" + KINDS + "guest l cat flag 1;"
                + "cold 3;takes 1;");
            for (int guest = 0; guest < 4; guest++) {
                x.down(guest, 0);
            }
            x.down(4, 1);
            Check.due("seized by it, coal " + coal, x.day(), coal > 6 ? 0 : 2);
            Check.due("inside, coal " + coal, x.hole(0, 3), coal > 6 ? 15 : 8);
            Check.due("inside another", x.hole(1, 3), 16);
            Check.due("in the street, coal " + coal, x.count(6), coal > 6 ? 0 : 5);
            Check.due("seized, coal " + coal, x.count(7), coal > 6 ? 0 : 2);
            Check.due("the day behind it", x.day(), coal > 6 ? 2 : 0);
            Check.due("the cat stays", x.hole(0, 3), 8);
        }
    }

    private static void daySeizes() {
        Check.sentence("DAY, Promise 11", "a wanted one who is in the street then is SEIZED, for good: who is SEIZED by it, as bits");
        CoalHoles x = Check.onTerrace(hole(60, 1) + "guest v wanted flag 1;guest p plain flag 1;guest e envoy flag 1;"
            + "guest k cat flag 1;guest w wanted flag 1;cold 0 1;takes 1;");
        x.down(4, 0);
        Check.due("without cold, too; a wanted one alone", x.day(), 1);
        Check.due("in the street, not seized", x.count(6), 14);
        Check.due("once", x.day(), 0);
        Check.due("he can't go down", x.down(0, 0), false);
        x.up(4);
        Check.due("the other one, not the first again", x.day(), 16);
        Check.due("seized", x.count(7), 17);
        x.bring(0);
        Check.due("for good", x.down(0, 0) || x.down(4, 0), false);
        Check.due("for good", x.day() + x.count(7), 17);
        CoalHoles y = Check.onTerrace("guest a wanted flag 1;guest b wanted flag 1;guest c wanted flag 1;guest d wanted flag 1;"
            + "guest e wanted flag 1;");
        Check.due("all five", y.day(), 31);
        Check.due("nobody is left", y.day(), 0);
        Check.due("nobody", new CoalHoles().day(), 0);
    }

    private static void dayIsTheNext() {
        Check.sentence("DAY", "the cold of that day; it is the next day");
        CoalHoles x = Check.onTerrace(hole(60, 1) + "cold 3 0 2;");
        int[] coal = {60, 57, 57, 55, 52, 52, 50};
        int[] cold = {3, 0, 2, 3, 0, 2, 3};
        for (int date = 0; date < coal.length; date++) {
            Check.due("count(3)", x.count(3), date);
            Check.due("count(4)", x.count(4), cold[date]);
            Check.due("coal", x.hole(0, 1), coal[date]);
            x.day();
        }
    }

    private static void undoSixteen() {
        Check.sentence("UNDO, Promise 12", "the last 16, one by one; false: nothing can be");
        for (int deeds : new int[] {0, 1, 2, 15, 16, 17, 18, 31, 32, 33, 48}) {
            CoalHoles x = Check.onTerrace(hole(60, 0) + "sack 1;");
            for (int i = 0; i < deeds; i++) {
                if (i % 2 == 0) {
                    x.day();
                } else {
                    x.bring(0);
                }
            }
            int can = Math.min(deeds, 16);
            for (int i = 1; i <= can; i++) {
                Check.due(deeds + " deeds: count(11)", x.count(11), can - i + 1);
                Check.due(deeds + " deeds: undo " + i, x.undo(), true);
                Check.due(deeds + " deeds: date", x.count(3), (deeds - i + 1) / 2);
                Check.due(deeds + " deeds: brought", x.count(8), (deeds - i) / 2);
                Check.due(deeds + " deeds: coal", x.hole(0, 1), Math.min(99, 60 + (deeds - i) / 2));
            }
            Check.due(deeds + " deeds: count(11)", x.count(11), 0);
            Check.due(deeds + " deeds: no more", x.undo(), false);
            Check.due("as it was", x.count(3), (deeds - can + 1) / 2);
            x.bring(0);
            Check.due("a new one can be", x.count(11), 1);
            Check.due("a new one can be", x.undo(), true);
            Check.due("no more", x.undo(), false);
        }
    }

    private static void undoEach() {
        Check.sentence("UNDO", "all of these: DOWN, UP, THROUGH, BRING, DAY");
        CoalHoles x = Check.onTerrace("hole a flag 1 coal 3 burns 1;hole b flag 1 coal 9 burns 2;wall a b;" + KINDS + "takes 1;cold 3;");
        x.down(1, 0);
        Check.due("undo of a down", x.undo(), true);
        Check.due("in the street", x.count(6), 15);
        x.down(1, 0);
        x.up(1);
        Check.due("undo of an up", x.undo(), true);
        Check.due("inside", x.hole(0, 3), 2);
        x.through(1, 1);
        Check.due("undo of a through", x.undo(), true);
        Check.due("inside", x.hole(0, 3), 2);
        Check.due("inside", x.hole(1, 3), 0);
        x.bring(0);
        Check.due("undo of a bring", x.undo(), true);
        Check.due("coal, brought", x.hole(0, 1) * 10 + x.count(8), 30);
        Check.due("a day", x.day(), 2);
        Check.due("undo of a day", x.undo(), true);
        Check.dueAt("count", Check.at(3, 5, 6, 7, 11), x::count, 0, 12, 13, 0, 1);
        Check.due("inside again", x.hole(0, 3), 2);
        Check.due("he isn't seized: a day again", x.day(), 2);
    }

    private static void undoNothing() {
        Check.sentence("UNDO", "what is refused, asked, heard, told or laid is no deed");
        CoalHoles x = threeHoles();
        x.down(0, 2);
        x.up(0);
        x.through(0, 1);
        x.bring(3);
        x.hear(1, true);
        Check.winter(x, "day;day;");
        x.mark(0, false);
        x.winters(1, 9, 0);
        x.lodging(9, 0);
        x.sacks(9, 0);
        x.judged(1);
        x.colder(9, 1);
        Check.feed(x, "abc");
        Check.due("count(11)", x.count(11), 0);
        Check.due("undo()", x.undo(), false);
        x.day();
        x.hear(2, true);
        Check.due("undo()", x.undo(), true);
        Check.dueAt("heard, told, fed: they stay", Check.at(9, 10, 12), x::count, 2, 2, 3);
    }
}

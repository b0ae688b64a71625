/** The edges of the tape and its tokens: the terms TAPE and TOKENS, promises 1 and 2, and the 512 calls. */
public final class EdgeTapeTest {
    private static final long BLANKS = 0x2020202020202020L;

    public static void main(String[] args) {
        newObject();
        signsTaken();
        orderOfBytes();
        beyondAThousand();
        howManyThereAre();
        takenByReading();
        words();
        numbers();
        blanks();
        signs();
        longestCalls();
        Check.end();
    }

    private static void newObject() {
        Check.sentence("Promise 1", "Nothing");
        CoalHoles x = new CoalHoles();
        Check.dueAt("count", Check.at(-1, 0, 1, 2, 3, 4, 5, 6, 7, 8, 9, 10, 11, 12, 13), x::count,
            -1, 0, 0, 5, 0, 1, 0, 0, 0, 0, 0, 0, 0, 0, -1);
        Check.dueAt("hole(0, what)", Check.at(-1, 0, 1, 2, 3, 4, 5, 6), what -> x.hole(0, what),
            -1, -1, -1, -1, -1, -1, -1, -1);
        Check.dueAt("guest(0, what)", Check.at(-1, 0, 1, 2, 3, 4, 5), what -> x.guest(0, what),
            -2, -2, -2, -2, -2, -2, -2);
        Check.due("down(0, 0)", x.down(0, 0), false);
        Check.due("up(0)", x.up(0), false);
        Check.due("through(0, 0)", x.through(0, 0), false);
        Check.due("bring(0)", x.bring(0), -1);
        Check.due("undo()", x.undo(), false);
        Check.dueAt("judged", Check.at(-1, 0, 1, 2, 3), x::judged, -2, -1, -1, 0, -2);
        Check.due("lasts(0)", x.lasts(0), -1);
        Check.due("safe(0)", x.safe(0), -1);
        Check.due("refuge(0)", x.refuge(0), -1);
        Check.dueAt("sacks(1, what)", Check.at(-2, -1, 0), what -> x.sacks(1, what), -2, 0, -2);
        Check.dueAt("lodging(1, guest)", Check.at(-2, -1, 0), guest -> x.lodging(1, guest), -2, 0, -2);
        Check.due("note(0, 0)", x.note(0, 0), -1);
        Check.due("full()", x.full(), 0);
        Check.due("pairs()", x.pairs(), 0);
        Check.due("line(0, 0)", x.line(0, 0), -1);
        Check.dueAt("coals", Check.at(-1, 0, 1, 2, 3), x::coals, -1, 61, 0, 60, -1);
        Check.due("ask()", x.ask(), 15);
        Check.due("colder(30, 3)", x.colder(30, 3), 0);
        Check.dueAt("winters(9999, 99, what)", Check.at(-1, 0, 1, 2, 3), what -> x.winters(9999, 99, what), -1, 0, 0, 0, -1);
        Check.dueAt("mark(mark, true)", Check.at(-1, 0, 1, 2, 3, 4), mark -> Check.bit(x.mark(mark, true)),
            0, 0, 0, 0, 0, 0);
        Check.due("terrace() of an empty tape", x.terrace(), 0);
        Check.due("winter() of an empty tape", x.winter(), 0);
        Check.due("a mark can be laid", x.mark(0, false), true);
        Check.due("a day can go by", x.day(), 0);
        Check.due("and be undone", x.undo(), true);
        Check.due("NONE", CoalHoles.NONE, -1);
    }

    /** What the sign is, by what reading it answers: a blank, left out, or a sign that can't stand there. */
    private static void signsTaken() {
        Check.sentence("Promise 2", "others than 10 and 32 .. 126 are left out");
        for (int sign = 0; sign < 256; sign++) {
            boolean isBlank = sign == 10 || sign == 32;
            boolean isTaken = isBlank || sign >= 33 && sign <= 126;
            CoalHoles x = new CoalHoles();
            x.feed(Check.bytes("sack 1;", 0), 0, 0);
            Check.due("feed of sign " + sign, x.feed((long) sign << 56, 0, 0), isTaken ? 8 : 7);
            x.feed(0, Check.bytes("sack 1;", 0), 0);
            Check.due("reading of sign " + sign, x.terrace(),
                !isTaken ? Check.fault(3, 7) : isBlank ? Check.fault(3, 8) : Check.fault(1, 7));
        }
    }

    private static void orderOfBytes() {
        Check.sentence("Promise 2", "up to 24 signs: the bytes of a, b, c, of each the highest first");
        for (int place = 0; place < 24; place++) {
            StringBuilder text = new StringBuilder(" ".repeat(24));
            text.setCharAt(place, '*');
            CoalHoles x = new CoalHoles();
            Check.due("24 signs", x.feed(Check.bytes(text.toString(), 0), Check.bytes(text.toString(), 8),
                Check.bytes(text.toString(), 16)), 24);
            Check.due("a wrong sign as byte " + place, x.terrace(), Check.fault(1, place));
            text.setCharAt(place, (char) 0);
            Check.due("one less, without byte " + place, Check.feed(new CoalHoles(), text.toString()), 23);
        }
        CoalHoles x = new CoalHoles();
        Check.due("no sign at all", x.feed(0, 0, 0), 0);
        Check.due("255 alone", x.feed(-1, -1, -1), 0);
        Check.due("a byte 128 ahead", x.feed(Long.MIN_VALUE, Long.MIN_VALUE | ' ', Long.MAX_VALUE), 1);
    }

    private static CoalHoles withSigns(int many, String last) {
        CoalHoles x = new CoalHoles();
        Check.feed(x, " ".repeat(many - last.length()) + last);
        return x;
    }

    private static void beyondAThousand() {
        Check.sentence("TAPE, Promise 2", "at most 1,000 signs, what is beyond is left out");
        Check.dueAt("signs", Check.at(998, 999, 1000, 1001, 1002, 1023), many -> withSigns(many, "").count(12),
            998, 999, 1000, 1000, 1000, 1000);
        Check.dueAt("sack 7; that ends at", Check.at(999, 1000, 1001), many -> withSigns(many, "sack 7;").terrace(),
            0, 0, Check.fault(1, 1000));
        Check.dueAt("day; that ends at", Check.at(999, 1000, 1001), many -> withSigns(many, "day;").winter(),
            0, 0, Check.fault(1, 1000));
        Check.dueAt("a stray sign at", Check.at(999, 1000, 1001), many -> withSigns(many, "*").terrace(),
            Check.fault(1, 998), Check.fault(1, 999), 0);
        CoalHoles x = withSigns(999, "sack 7");
        Check.due("one has room, the first one", x.feed(0, Check.bytes(";*", 0), BLANKS), 1000);
        Check.due("read", x.terrace(), 0);
        Check.due("sack", x.count(2), 7);
        CoalHoles y = withSigns(999, "sack 8");
        Check.due("those left out take no room", y.feed(0x00ff1f7f0b090000L, 0, 0), 999);
        Check.due("one has room", y.feed(0, 0, ';'), 1000);
        Check.due("none has", y.feed(0, 0, ';'), 1000);
        Check.due("read", y.terrace(), 0);
        Check.due("sack", y.count(2), 8);
        Check.due("as many again", Check.feed(y, " ".repeat(999)), 999);
        Check.due("as many again", Check.feed(y, "  "), 1000);
    }

    private static void howManyThereAre() {
        Check.sentence("Promise 2", "how many there are");
        CoalHoles x = new CoalHoles();
        Check.due("none", x.feed(0, 0, 0), 0);
        Check.due("one", x.feed('a', 0, 0), 1);
        Check.due("on the tape, not what came", x.feed(0, 0, 0), 1);
        Check.due("24 more", x.feed(BLANKS, BLANKS, BLANKS), 25);
        Check.due("count(12)", x.count(12), 25);
    }

    private static void takenByReading() {
        Check.sentence("TAPE", "what reads it takes it: it is empty then");
        CoalHoles x = new CoalHoles();
        Check.due("a terrace", Check.terrace(x, "sack 3;"), 0);
        Check.due("count(12)", x.count(12), 0);
        Check.due("a terrace with a fault", Check.terrace(x, "sack 21;"), Check.fault(4, 5));
        Check.due("count(12)", x.count(12), 0);
        Check.due("a winter", Check.winter(x, "day;"), 0);
        Check.due("count(12)", x.count(12), 0);
        Check.due("a winter with a fault", Check.winter(x, "day;x"), Check.fault(1, 4));
        Check.due("count(12)", x.count(12), 0);
        Check.due("feed begins anew", Check.feed(x, "da"), 2);
        Check.due("nothing else reads it", x.judged(0) + x.day() + x.count(12), -1 + 0 + 2);
        Check.due("sack still", x.count(2), 3);
        Check.due("it is read as it is", x.winter(), Check.fault(1, 0));
        Check.due("an empty one is a terrace of nothing", x.terrace(), 0);
        Check.due("sack", x.count(2), 5);
    }

    private static String holeNamed(String name) {
        return "hole " + name + " flag 1 coal 2 burns 3;";
    }

    private static void words() {
        Check.sentence("TOKENS", "WORDS: letters a .. z, 8 at most; a longer one is none, at its first sign");
        Check.told(holeNamed("abcdefg"));
        Check.told(holeNamed("abcdefgh"));
        Check.fault(1, "hole ", "abcdefghi", " flag 1 coal 2 burns 3;");
        Check.fault(1, "hole ", "a".repeat(995), "");
        Check.fault(1, "", "holeholeh", " a flag 1 coal 2 burns 3;");
        Check.fault(1, holeNamed("abcdefgh") + "wall ", "abcdefghi", " abcdefgh;");
        Check.fault(2, holeNamed("abcdefgh") + "wall ", "abcdefg", " abcdefgh;");
        Check.fault(1, "takes ", "leftleftl", ";");
        for (int sign = 33; sign < 127; sign++) {
            String name = String.valueOf((char) sign);
            if (sign >= 'a' && sign <= 'z') {
                Check.told(holeNamed(name));
                Check.told(holeNamed("q" + name));
            } else {
                Check.fault(1, "hole ", name, " flag 1 coal 2 burns 3;");
                Check.fault(1, "hole q", name, " flag 1 coal 2 burns 3;");
            }
        }
        Check.sentence("TOKENS", "each as long as can be");
        Check.fault(1, "", "holea", " flag 1 coal 2 burns 3;");
        Check.fault(1, "", "hol", " a flag 1 coal 2 burns 3;");
        Check.fault(1, "hole a ", "flagcoal", " 1 coal 2 burns 3;");
        Check.fault(1, "hole a", ";", "");
    }

    private static void numbers() {
        Check.sentence("TOKENS", "NUMBERS: 1 to 4 digits; a longer one is none, at its first sign");
        Check.fault(1, "sack ", ";", "");
        Check.dueAt("a sack told by so many digits", Check.at(1, 2, 3, 4, 5, 6),
            digits -> Check.terrace(new CoalHoles(), "sack " + "0".repeat(digits - 1) + "7;"),
            0, 0, 0, 0, Check.fault(1, 5), Check.fault(1, 5));
        Check.due("0012 is 12", Check.onTerrace("sack 0012;").count(2), 12);
        Check.told("takes 9998;");
        Check.told("takes 9999;");
        Check.fault(1, "takes ", "10000", ";");
        Check.fault(1, "takes ", "00000", ";");
        Check.fault(1, "takes 1+", "12345", "6;");
        Check.fault(1, "sack ", "1".repeat(995), "");
        for (int sign = 33; sign < 127; sign++) {
            boolean isDigit = sign >= '0' && sign <= '9';
            String text = "war " + (char) sign + (sign == '5' ? " 6;" : " 5;");
            Check.due("terrace() of " + text, Check.terrace(new CoalHoles(), text), isDigit ? 0 : Check.fault(1, 4));
            if (isDigit) {
                Check.due("its number", sign == '5' ? 1 : Check.onTerrace("guest a cat flag " + (sign - '0')
                    + ";guest b cat flag 5;" + text).pairs(), 1);
            }
        }
        Check.sentence("TOKENS", "a letter may stand right behind a NUMBER");
        Check.told("hole a flag 1coal 2burns 3;");
        Check.told("hole a flag 0001coal 0002burns 0003;");
        Check.fault(1, "hole a flag ", "00001", "coal 2 burns 3;");
        Check.fault(1, "sack 5", "x", ";");
        Check.told("takes 1and 1or 0;");
        Check.sentence("TOKENS", "each as long as can be");
        Check.fault(4, "cold ", "12", ";");
        Check.told("cold 1 2;");
        Check.fault(1, "sack 1 ", "2", ";");
        Check.told("sack 12;");
        Check.told("hole a flag1coal2burns3;");
    }

    private static void blanks() {
        Check.sentence("TOKENS", "blanks (10, 32) between where one likes");
        String[] tokens = {"hole", "a", "flag", "1", "coal", "2", "burns", "3", ";", "takes", "(", "left", "+", "1", ")", "<",
            "9", ";"};
        for (String blank : new String[] {" ", "\n", "  ", "\n\n", " \n ", "\n \n"}) {
            Check.told(blank + String.join(blank, tokens) + blank);
        }
        Check.told("hole a flag1coal2burns3;takes(left+1)<9;");
        Check.told("");
        Check.told(" ");
        Check.told("\n");
        Check.fault(1, "", "ho", " le a flag 1 coal 2 burns 3;");
        Check.fault(1, "", "ho", "\nle a flag 1 coal 2 burns 3;");
        Check.fault(1, "sack 1", "", "");
        Check.fault(1, "sack 1 ", "", "");
        Check.fault(1, "sack 1\n\n ", "", "");
    }

    /** Behind a NUMBER of an E stand those signs that join it, and the ; that ends it. */
    private static void signs() {
        Check.sentence("TOKENS", "the signs ( ) < = + - * ;  all else is none");
        for (int sign = 33; sign < 127; sign++) {
            if (Character.isLetterOrDigit(sign)) {
                continue;
            }
            if ("<=+-*".indexOf(sign) >= 0) {
                Check.told("takes 1" + (char) sign + "1;");
            } else if (sign == ';') {
                Check.fault(1, "takes 1;", "1", ";");
            } else {
                Check.fault(1, "takes 1", String.valueOf((char) sign), "1;");
            }
            if (sign == '(') {
                Check.told("takes (1);");
            } else if (sign != ')') {
                Check.fault(1, "takes ", String.valueOf((char) sign), "1);");
            }
        }
        Check.told("takes (1)*(1);");
        Check.fault(1, "takes (1", "]", ";");
    }

    private static void longestCalls() {
        Check.sentence("What it is", "at most 512 calls");
        CoalHoles x = new CoalHoles();
        Check.days(x, 511);
        Check.due("the 512th: count(3)", x.count(3), 511);
        CoalHoles y = new CoalHoles();
        long sack = Check.bytes("sack 3;", 0);
        Check.due("1", y.feed(Check.bytes("hole a f", 0), Check.bytes("lag 1 co", 0), Check.bytes("al 60 bu", 0)), 24);
        Check.due("2", y.feed(Check.bytes("rns 0;", 0), sack, 0), 37);
        Check.due("3", y.terrace(), 0);
        for (int call = 4; call < 512; call++) {
            Check.due("bring, call " + call, y.bring(0), Math.min(60 + 3 * (call - 3), 99));
        }
        Check.due("the 512th: count(8)", y.count(8), 508);
        CoalHoles z = new CoalHoles();
        for (int call = 1; call < 512; call++) {
            z.feed(BLANKS, BLANKS, BLANKS);
        }
        Check.due("the 512th", z.terrace(), 0);
    }
}

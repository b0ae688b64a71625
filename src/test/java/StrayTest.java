/**
 * One stray token at every place of a whole text, and every short law: the class finds the same FAULT as the slow model,
 * and where there is none they tell the same. Promises 3 and 4.
 */
public final class StrayTest {
    private static final String TERRACE = "hole ha flag 1 coal 60 burns 9 ; hole hb flag 9 coal 0 burns 0 ; wall ha hb ; "
        + "hole hc flag 0 coal 20 burns 3 ; hole hd flag 2 coal 19 burns 1 ; wall hc ha ; guest ga plain flag 1 ; "
        + "guest gb wanted flag 2 ; guest gc envoy flag 9 ; guest gd cat flag 0 ; war 1 2 ; war 9 0 ; "
        + "cold 0 1 2 3 0 1 2 3 0 1 2 3 ; sack 20 ; "
        + "takes not ( left < inside * 4 ) and ( date - 3 = same + not 2 ) or ( ( not ( 1 ) ) ) ; hole he flag 3 coal 1 burns 1 ; "
        + "guest ge wanted flag 3 ;";
    private static final String WINTER = "down ga ha ; day ; through ga hb ; up ga ; bring hc ; down gb hd ; down gc ha ; "
        + "day ; through gc hc ; bring hb ; up gb ; day ; down gd hb ;";
    private static final String[] STRAY = {"hole", "flag", "coal", "burns", "wall", "guest", "war", "cold", "sack",
        "takes", "down", "up", "through", "bring", "day", "plain", "wanted", "envoy", "cat", "not", "and", "or", "left",
        "inside", "same", "date", "(", ")", "<", "=", "+", "-", "*", ";", "0", "1", "2", "3", "4", "9", "10", "20", "21",
        "60", "61", "9999", "12345", "hx", "ha", "hb", "hc", "ga", "gb", "abcdefgh", "abcdefghi", "A", "/", ">", "0001"};
    private static final String[] OF_LAWS = {"3", "left", "not", "(", ")", "<", "=", "+", "-", "*", "and", "or", ";"};

    private StrayTest() {
    }

    public static void main(String[] args) {
        int lawLength = args.length > 0 ? Integer.parseInt(args[0]) : 4;
        CoalHoles x = Check.onTerrace(TERRACE);
        Check.due("winter() of " + WINTER, Check.winter(x, WINTER), 0);
        strayTokens(TERRACE, true);
        strayTokens(WINTER, false);
        cutShort(TERRACE, true);
        cutShort(WINTER, false);
        laws("", lawLength);
        // Four are around what follows: the last level at which a PART can lie.
        laws("not ( not (", lawLength - 1);
        Check.end();
    }

    private static void strayTokens(String text, boolean isTerrace) {
        String[] tokens = text.split(" ");
        for (int at = 0; at < tokens.length; at++) {
            String ahead = joined(tokens, 0, at);
            String behind = joined(tokens, at, tokens.length);
            String without = joined(tokens, at + 1, tokens.length);
            alike(ahead + without, isTerrace);
            alike(ahead + tokens[at] + " " + behind, isTerrace);
            for (String stray : STRAY) {
                alike(ahead + stray + " " + without, isTerrace);
                alike(ahead + stray + " " + behind, isTerrace);
            }
        }
    }

    private static void cutShort(String text, boolean isTerrace) {
        for (int end = 0; end <= text.length(); end++) {
            alike(text.substring(0, end), isTerrace);
            alike(text.substring(0, end) + text.substring(Math.min(end + 1, text.length())), isTerrace);
        }
    }

    private static void laws(String ahead, int more) {
        alike("hole ha flag 1 coal 5 burns 1;guest ga plain flag 1;takes " + ahead + ";", true);
        for (int i = 0; i < OF_LAWS.length && more > 0; i++) {
            laws(ahead + " " + OF_LAWS[i], more - 1);
        }
    }

    private static String joined(String[] tokens, int from, int to) {
        StringBuilder s = new StringBuilder();
        for (int i = from; i < to; i++) {
            s.append(tokens[i]).append(' ');
        }
        return s.toString();
    }

    private static void alike(String text, boolean isTerrace) {
        CoalHoles x = new CoalHoles();
        Model model = new Model();
        if (!isTerrace) {
            feed(x, model, TERRACE);
            Check.due("terrace() ahead of " + text, x.terrace(), model.terrace());
        }
        feed(x, model, text);
        int got = isTerrace ? x.terrace() : x.winter();
        int want = isTerrace ? model.terrace() : model.winter();
        Check.due((isTerrace ? "terrace() of " : "winter() of ") + text, got, want);
        for (int what = 0; what <= 12; what++) {
            Check.due("count(" + what + ") behind " + text, x.count(what), model.count(what));
        }
        for (int i = 0; i < 5; i++) {
            Check.due("hole(" + i + ", 4) behind " + text, x.hole(i, 4), model.hole(i, 4));
            Check.due("hole(" + i + ", 5) behind " + text, x.hole(i, 5), model.hole(i, 5));
            Check.due("guest(" + i + ", 4) behind " + text, x.guest(i, 4), model.guest(i, 4));
        }
        for (int what = 0; what <= 2; what++) {
            Check.due("judged(" + what + ") behind " + text, x.judged(what), model.judged(what));
        }
    }

    private static void feed(CoalHoles x, Model model, String text) {
        for (int i = 0; i < text.length(); i += 24) {
            long a = Check.bytes(text, i);
            long b = Check.bytes(text, i + 8);
            long c = Check.bytes(text, i + 16);
            Check.due("feed of " + text, x.feed(a, b, c), model.feed(a, b, c));
        }
    }
}

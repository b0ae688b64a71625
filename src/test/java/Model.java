import java.util.ArrayDeque;
import java.util.ArrayList;
import java.util.Arrays;
import java.util.HashMap;
import java.util.HashSet;
import java.util.List;
import java.util.Map;
import java.util.NoSuchElementException;
import java.util.Set;
import java.util.regex.Matcher;
import java.util.regex.Pattern;

/** A second telling of the document, slow and by trying everything: the class is held against it. */
final class Model {
    private static final Pattern TOKEN = Pattern.compile("[a-z]+|[0-9]+|[^ \n]");
    private static final List<String> KINDS = List.of("plain", "wanted", "envoy", "cat");
    private static final List<String> FACTS = List.of("left", "inside", "same", "date");
    private static final Set<String> RESERVED = Set.of("hole", "flag", "coal", "burns", "wall", "guest", "war",
        "cold", "sack", "takes", "down", "up", "through", "bring", "day", "plain", "wanted", "envoy", "cat",
        "not", "and", "or");

    private interface Expression {
        int of(int[] facts);
    }

    private static final class Fault extends RuntimeException {
        private static final long serialVersionUID = 1L;
        final int number;

        Fault(int kind, int place) {
            super(null, null, false, false);
            number = kind + 16 * place;
        }
    }

    private static final class Told {
        final List<String> holes = new ArrayList<>();
        final List<int[]> holeFacts = new ArrayList<>();
        final List<String> guests = new ArrayList<>();
        final List<int[]> guestFacts = new ArrayList<>();
        final Set<List<Integer>> walls = new HashSet<>();
        final Set<List<Integer>> wars = new HashSet<>();
        List<Integer> cold;
        Integer sack;
        Expression takes;

        int coldOf(int date) {
            return cold == null ? 1 : cold.get(date % cold.size());
        }

        int sackHolds() {
            return sack == null ? 5 : sack;
        }

        boolean war(int guest, int other) {
            return wars.contains(List.of(guestFacts.get(guest)[1], guestFacts.get(other)[1]));
        }
    }

    private static final class How {
        int[] coal;
        int[] where;
        boolean[] seized;
        int date;
        int brought;

        How(Told told) {
            coal = new int[told.holes.size()];
            for (int i = 0; i < coal.length; i++) {
                coal[i] = told.holeFacts.get(i)[1];
            }
            where = new int[told.guests.size()];
            Arrays.fill(where, -1);
            seized = new boolean[where.length];
        }

        How(How other) {
            coal = other.coal.clone();
            where = other.where.clone();
            seized = other.seized.clone();
            date = other.date;
            brought = other.brought;
        }

        int seizedMany() {
            int n = 0;
            for (boolean s : seized) {
                n += s ? 1 : 0;
            }
            return n;
        }

        int seizedBits() {
            int bits = 0;
            for (int i = 0; i < seized.length; i++) {
                bits |= seized[i] ? 1 << i : 0;
            }
            return bits;
        }
    }

    private record Line(String verb, int guest, int hole) {
    }

    private record Laid(How how, List<Line> winter, List<int[]> heard) {
    }

    private String tape = "";
    private Told told = new Told();
    private How how = new How(told);
    private List<Line> winter = List.of();
    private List<int[]> heard = new ArrayList<>();
    private final ArrayDeque<How> past = new ArrayDeque<>();
    private final Map<Integer, Laid> marks = new HashMap<>();

    // ---- reading

    private final class Reader {
        final List<String> tokens = new ArrayList<>();
        final List<Integer> places = new ArrayList<>();
        int at;

        Reader() {
            Matcher m = TOKEN.matcher(tape);
            while (m.find()) {
                tokens.add(m.group());
                places.add(m.start());
            }
            tokens.add("");
            places.add(tape.length());
        }

        String token() {
            return tokens.get(at);
        }

        Fault fault(int kind) {
            return new Fault(kind, places.get(at));
        }

        boolean isNumber() {
            return token().matches("[0-9]{1,4}");
        }

        boolean isName() {
            return token().matches("[a-z]{1,8}") && !RESERVED.contains(token());
        }

        void must(String word) {
            if (!token().equals(word)) {
                throw fault(1);
            }
            at++;
        }

        int peekNumber(int least, int most) {
            if (!isNumber()) {
                throw fault(1);
            }
            int n = Integer.parseInt(token());
            if (n < least || n > most) {
                throw fault(4);
            }
            return n;
        }

        int number(int least, int most) {
            int n = peekNumber(least, most);
            at++;
            return n;
        }

        int peekNamed(List<String> names) {
            if (!isName()) {
                throw fault(1);
            }
            if (!names.contains(token())) {
                throw fault(2);
            }
            return names.indexOf(token());
        }

        int named(List<String> names) {
            int n = peekNamed(names);
            at++;
            return n;
        }

        String fresh(Told t) {
            if (!isName()) {
                throw fault(1);
            }
            if (t.holes.contains(token()) || t.guests.contains(token())) {
                throw fault(3);
            }
            return tokens.get(at++);
        }

        Expression expression(int depth) {
            Expression all = test(depth);
            while (token().equals("and") || token().equals("or")) {
                boolean and = tokens.get(at++).equals("and");
                Expression first = all;
                Expression second = test(depth);
                all = f -> {
                    boolean a = first.of(f) != 0;
                    boolean b = second.of(f) != 0;
                    return (and ? a && b : a || b) ? 1 : 0;
                };
            }
            return all;
        }

        Expression test(int depth) {
            Expression first = sum(depth);
            if (!token().equals("<") && !token().equals("=")) {
                return first;
            }
            boolean less = tokens.get(at++).equals("<");
            Expression second = sum(depth);
            return f -> (less ? first.of(f) < second.of(f) : first.of(f) == second.of(f)) ? 1 : 0;
        }

        Expression sum(int depth) {
            Expression all = product(depth);
            while (token().equals("+") || token().equals("-")) {
                boolean plus = tokens.get(at++).equals("+");
                Expression first = all;
                Expression second = product(depth);
                all = f -> plus ? first.of(f) + second.of(f) : first.of(f) - second.of(f);
            }
            return all;
        }

        Expression product(int depth) {
            Expression all = part(depth);
            while (token().equals("*")) {
                at++;
                Expression first = all;
                Expression second = part(depth);
                all = f -> first.of(f) * second.of(f);
            }
            return all;
        }

        Expression part(int depth) {
            String t = token();
            boolean fits = isNumber() || FACTS.contains(t) || t.equals("not") || t.equals("(");
            if (!fits) {
                throw fault(1);
            }
            if (depth == 5) {
                throw fault(5);
            }
            if (isNumber()) {
                int n = number(0, 9999);
                return f -> n;
            }
            at++;
            if (FACTS.contains(t)) {
                int fact = FACTS.indexOf(t);
                return f -> f[fact];
            }
            if (t.equals("not")) {
                Expression inner = part(depth + 1);
                return f -> inner.of(f) == 0 ? 1 : 0;
            }
            Expression inner = expression(depth + 1);
            must(")");
            return inner;
        }
    }

    private Told readTerrace() {
        Reader r = new Reader();
        Told t = new Told();
        while (!r.token().isEmpty()) {
            String word = r.token();
            switch (word) {
                case "hole" -> {
                    if (t.holes.size() == 5) {
                        throw r.fault(5);
                    }
                    r.at++;
                    String name = r.fresh(t);
                    r.must("flag");
                    int flag = r.number(0, 9);
                    r.must("coal");
                    int coal = r.number(0, 60);
                    r.must("burns");
                    t.holeFacts.add(new int[] {flag, coal, r.number(0, 9)});
                    t.holes.add(name);
                }
                case "wall" -> {
                    r.at++;
                    int a = r.named(t.holes);
                    int b = r.peekNamed(t.holes);
                    if (a == b || t.walls.contains(List.of(a, b))) {
                        throw r.fault(3);
                    }
                    r.at++;
                    t.walls.add(List.of(a, b));
                    t.walls.add(List.of(b, a));
                }
                case "guest" -> {
                    if (t.guests.size() == 5) {
                        throw r.fault(5);
                    }
                    r.at++;
                    String name = r.fresh(t);
                    if (!KINDS.contains(r.token())) {
                        throw r.fault(1);
                    }
                    int kind = KINDS.indexOf(r.token());
                    r.at++;
                    r.must("flag");
                    t.guestFacts.add(new int[] {kind, r.number(0, 9)});
                    t.guests.add(name);
                }
                case "war" -> {
                    r.at++;
                    int a = r.number(0, 9);
                    int b = r.peekNumber(0, 9);
                    if (a == b || t.wars.contains(List.of(a, b))) {
                        throw r.fault(3);
                    }
                    r.at++;
                    t.wars.add(List.of(a, b));
                    t.wars.add(List.of(b, a));
                }
                case "cold" -> {
                    if (t.cold != null) {
                        throw r.fault(3);
                    }
                    r.at++;
                    t.cold = new ArrayList<>();
                    do {
                        int n = r.peekNumber(0, 3);
                        if (t.cold.size() == 12) {
                            throw r.fault(5);
                        }
                        r.at++;
                        t.cold.add(n);
                    } while (!r.token().equals(";"));
                }
                case "sack" -> {
                    if (t.sack != null) {
                        throw r.fault(3);
                    }
                    r.at++;
                    t.sack = r.number(1, 20);
                }
                case "takes" -> {
                    if (t.takes != null) {
                        throw r.fault(3);
                    }
                    r.at++;
                    t.takes = r.expression(0);
                }
                default -> throw r.fault(1);
            }
            r.must(";");
        }
        return t;
    }

    private List<Line> readWinter() {
        Reader r = new Reader();
        List<Line> lines = new ArrayList<>();
        while (!r.token().isEmpty()) {
            String verb = r.token();
            if (!List.of("down", "up", "through", "bring", "day").contains(verb)) {
                throw r.fault(1);
            }
            if (lines.size() == 40) {
                throw r.fault(5);
            }
            r.at++;
            int guest = verb.equals("bring") || verb.equals("day") ? -1 : r.named(told.guests);
            int hole = verb.equals("up") || verb.equals("day") ? -1 : r.named(told.holes);
            r.must(";");
            lines.add(new Line(verb, guest, hole));
        }
        return lines;
    }

    // ---- what can be done

    private boolean takes(How h, int hole, int guest) {
        int[] g = told.guestFacts.get(guest);
        if (g[0] == 3) {
            return true;
        }
        int inside = 0;
        boolean foe = false;
        for (int i = 0; i < h.where.length; i++) {
            if (h.where[i] == hole) {
                inside++;
                foe |= told.war(i, guest);
            }
        }
        int left = h.coal[hole];
        int same = told.holeFacts.get(hole)[0] == g[1] ? 1 : 0;
        boolean law = told.takes == null ? inside * 4 < left
            : told.takes.of(new int[] {left, inside, same, h.date}) != 0;
        return left > 0 && (g[0] == 2 || law) && (!foe || left >= 20);
    }

    private boolean isHole(int hole) {
        return hole >= 0 && hole < told.holes.size();
    }

    private boolean isGuest(int guest) {
        return guest >= 0 && guest < told.guests.size();
    }

    private boolean tryDown(How h, int guest, int hole) {
        if (!isGuest(guest) || !isHole(hole) || h.where[guest] != -1 || h.seized[guest] || !takes(h, hole, guest)) {
            return false;
        }
        h.where[guest] = hole;
        return true;
    }

    private boolean tryUp(How h, int guest) {
        if (!isGuest(guest) || h.where[guest] == -1) {
            return false;
        }
        h.where[guest] = -1;
        return true;
    }

    private boolean tryThrough(How h, int guest, int hole) {
        if (!isGuest(guest) || !isHole(hole) || h.where[guest] == -1
            || !told.walls.contains(List.of(h.where[guest], hole)) || !takes(h, hole, guest)) {
            return false;
        }
        h.where[guest] = hole;
        return true;
    }

    private void doBring(How h, int hole) {
        h.coal[hole] = Math.min(99, h.coal[hole] + told.sackHolds());
        h.brought++;
    }

    private int doDay(How h, int more) {
        for (int i = 0; i < h.coal.length; i++) {
            h.coal[i] = Math.max(0, h.coal[i] - told.holeFacts.get(i)[2] * (told.coldOf(h.date) + more));
        }
        int bits = 0;
        for (int i = 0; i < h.where.length; i++) {
            int kind = told.guestFacts.get(i)[0];
            if (h.where[i] != -1 && h.coal[h.where[i]] == 0 && kind != 3) {
                h.where[i] = -1;
            }
            if (h.where[i] == -1 && kind == 1 && !h.seized[i]) {
                h.seized[i] = true;
                bits |= 1 << i;
            }
        }
        h.date++;
        return bits;
    }

    private How later(How from, int days, int more) {
        How h = new How(from);
        for (int i = 0; i < days; i++) {
            doDay(h, more);
        }
        return h;
    }

    private void remember() {
        past.addLast(new How(how));
        if (past.size() > 16) {
            past.removeFirst();
        }
    }

    // ---- the face

    int feed(long a, long b, long c) {
        StringBuilder s = new StringBuilder(tape);
        for (long part : new long[] {a, b, c}) {
            for (int i = 7; i >= 0; i--) {
                char sign = (char) (part >>> 8 * i & 0xff);
                if ((sign == '\n' || sign >= ' ' && sign <= '~') && s.length() < 1000) {
                    s.append(sign);
                }
            }
        }
        tape = s.toString();
        return tape.length();
    }

    int terrace() {
        try {
            told = readTerrace();
        } catch (Fault f) {
            return f.number;
        } finally {
            tape = "";
        }
        how = new How(told);
        winter = List.of();
        heard = new ArrayList<>();
        past.clear();
        marks.clear();
        return 0;
    }

    int winter() {
        try {
            winter = readWinter();
        } catch (Fault f) {
            return f.number;
        } finally {
            tape = "";
        }
        return 0;
    }

    int hole(int hole, int what) {
        if (!isHole(hole) || what < 0 || what > 5) {
            return -1;
        }
        if (what == 1) {
            return how.coal[hole];
        }
        if (what == 0 || what == 2) {
            return told.holeFacts.get(hole)[what];
        }
        int bits = 0;
        for (int i = 0; i < 5; i++) {
            boolean is;
            if (what == 3) {
                is = isGuest(i) && how.where[i] == hole;
            } else if (what == 4) {
                is = told.walls.contains(List.of(hole, i));
            } else {
                is = isGuest(i) && how.where[i] != hole && takes(how, hole, i);
            }
            bits |= is ? 1 << i : 0;
        }
        return bits;
    }

    int guest(int guest, int what) {
        if (!isGuest(guest) || what < 0 || what > 4) {
            return -2;
        }
        switch (what) {
            case 0:
            case 1:
                return told.guestFacts.get(guest)[what];
            case 2:
                return how.where[guest];
            case 3:
                return how.seized[guest] ? 1 : 0;
            default:
                int bits = 0;
                for (int i = 0; i < how.where.length; i++) {
                    if (!how.seized[guest] && !how.seized[i] && how.where[i] == how.where[guest]
                        && told.war(i, guest)) {
                        bits |= 1 << i;
                    }
                }
                return bits;
        }
    }

    private boolean keepIf(How before, boolean went) {
        if (went) {
            How after = how;
            how = before;
            remember();
            how = after;
        }
        return went;
    }

    boolean down(int guest, int hole) {
        How before = new How(how);
        return keepIf(before, tryDown(how, guest, hole));
    }

    boolean up(int guest) {
        How before = new How(how);
        return keepIf(before, tryUp(how, guest));
    }

    boolean through(int guest, int hole) {
        How before = new How(how);
        return keepIf(before, tryThrough(how, guest, hole));
    }

    int bring(int hole) {
        if (!isHole(hole)) {
            return -1;
        }
        remember();
        doBring(how, hole);
        return how.coal[hole];
    }

    int day() {
        remember();
        return doDay(how, 0);
    }

    boolean undo() {
        if (past.isEmpty()) {
            return false;
        }
        how = past.removeLast();
        return true;
    }

    int judged(int what) {
        if (what < 0 || what > 2) {
            return -2;
        }
        How h = new How(told);
        int cant = -1;
        int seizing = -1;
        for (int i = 0; i < winter.size(); i++) {
            Line line = winter.get(i);
            boolean can = true;
            switch (line.verb) {
                case "down" -> can = tryDown(h, line.guest, line.hole);
                case "up" -> can = tryUp(h, line.guest);
                case "through" -> can = tryThrough(h, line.guest, line.hole);
                case "bring" -> doBring(h, line.hole);
                default -> {
                    if (doDay(h, 0) != 0 && seizing == -1) {
                        seizing = i;
                    }
                }
            }
            if (!can && cant == -1) {
                cant = i;
            }
        }
        return what == 0 ? cant : what == 1 ? seizing : h.brought;
    }

    int lasts(int hole) {
        if (isHole(hole)) {
            for (int d = 0; d <= 99; d++) {
                if (later(how, d, 0).coal[hole] == 0) {
                    return d;
                }
            }
        }
        return -1;
    }

    private int safeIn(How h, int guest) {
        for (int d = 1; d <= 99; d++) {
            if (later(h, d, 0).where[guest] != h.where[guest]) {
                return d;
            }
        }
        return -1;
    }

    int safe(int guest) {
        return !isGuest(guest) || how.where[guest] == -1 ? -1 : safeIn(how, guest);
    }

    int refuge(int guest) {
        int best = -1;
        int longest = -1;
        for (int hole = 0; hole < told.holes.size(); hole++) {
            How h = new How(how);
            if (tryDown(h, guest, hole)) {
                int days = safeIn(h, guest);
                days = days == -1 ? 1000 : days;
                if (days > longest) {
                    best = hole;
                    longest = days;
                }
            }
        }
        return best;
    }

    int sacks(int days, int what) {
        if (days < 1 || days > 30 || what < -1 || what >= told.holes.size()) {
            return -2;
        }
        int n = told.holes.size();
        int fewest = 1000;
        int[] bestRow = null;
        for (int code = 0; code < 1 << 2 * n; code++) {
            int[] row = new int[n];
            int sum = 0;
            How h = new How(how);
            for (int i = 0; i < n; i++) {
                row[i] = code >> 2 * (n - 1 - i) & 3;
                sum += row[i];
                for (int k = 0; k < row[i]; k++) {
                    doBring(h, i);
                }
            }
            if (sum < fewest && later(h, days, 0).seizedMany() == how.seizedMany()) {
                fewest = sum;
                bestRow = row;
            }
        }
        return bestRow == null ? -2 : what == -1 ? fewest : bestRow[what];
    }

    private int[] bestLodging;
    private int[] bestScore;

    private void lodge(How h, int guest, int[] row, int days) {
        if (guest == row.length) {
            How end = later(h, days, 0);
            int in = 0;
            for (int w : end.where) {
                in += w != -1 ? 1 : 0;
            }
            int[] score = {end.seizedMany(), -in};
            if (bestScore == null || Arrays.compare(score, bestScore) < 0) {
                bestScore = score;
                bestLodging = row.clone();
            }
            return;
        }
        if (how.where[guest] == -1 && !how.seized[guest]) {
            for (int hole = 0; hole < told.holes.size(); hole++) {
                How next = new How(h);
                if (tryDown(next, guest, hole)) {
                    row[guest] = hole;
                    lodge(next, guest + 1, row, days);
                }
            }
        }
        row[guest] = -1;
        lodge(h, guest + 1, row, days);
    }

    int lodging(int days, int guest) {
        if (days < 1 || days > 30 || guest < -1 || guest >= told.guests.size()) {
            return -2;
        }
        bestScore = null;
        lodge(how, 0, new int[told.guests.size()], days);
        return guest == -1 ? bestScore[0] : bestLodging[guest];
    }

    int note(int from, int to) {
        if (!isHole(from) || !isHole(to)) {
            return -1;
        }
        Set<Integer> reached = new HashSet<>(List.of(from));
        for (int steps = 0; steps <= 5; steps++) {
            if (reached.contains(to)) {
                return steps;
            }
            Set<Integer> more = new HashSet<>(reached);
            for (List<Integer> wall : told.walls) {
                if (reached.contains(wall.get(0))) {
                    more.add(wall.get(1));
                }
            }
            reached = more;
        }
        return -1;
    }

    int full() {
        int bits = 0;
        for (int hole = 0; hole < told.holes.size(); hole++) {
            boolean any = false;
            for (int guest = 0; guest < told.guests.size(); guest++) {
                any |= tryDown(new How(how), guest, hole);
            }
            bits |= any ? 0 : 1 << hole;
        }
        return bits;
    }

    int pairs() {
        int n = 0;
        for (int i = 0; i < told.guests.size(); i++) {
            for (int j = 0; j < i; j++) {
                n += told.war(i, j) ? 1 : 0;
            }
        }
        return n;
    }

    int line(int guest, int other) {
        if (!isGuest(guest) || !isGuest(other) || !told.war(guest, other) || how.where[guest] == -1
            || how.where[guest] != how.where[other]) {
            return -1;
        }
        for (int d = 0; d <= 99; d++) {
            if (later(how, d, 0).coal[how.where[guest]] < 20) {
                return d;
            }
        }
        return -1;
    }

    boolean hear(int days, boolean some) {
        if (days < 1 || days > 30 || heard.size() == 8) {
            return false;
        }
        heard.add(new int[] {days, some ? 1 : 0});
        return true;
    }

    private boolean leaves(int coal, int days) {
        for (int d = 0; d < days; d++) {
            coal = Math.max(0, coal - 2 * told.coldOf(how.date + d));
        }
        return coal > 0;
    }

    private List<Integer> coalsHeard() {
        List<Integer> all = new ArrayList<>();
        for (int coal = 0; coal <= 60; coal++) {
            boolean fits = true;
            for (int[] h : heard) {
                fits &= leaves(coal, h[0]) == (h[1] == 1);
            }
            if (fits) {
                all.add(coal);
            }
        }
        return all;
    }

    int coals(int what) {
        List<Integer> all = coalsHeard();
        if (what == 0) {
            return all.size();
        }
        if (all.isEmpty() || what < 0 || what > 2) {
            return -1;
        }
        return what == 1 ? all.get(0) : all.get(all.size() - 1);
    }

    int ask() {
        List<Integer> all = coalsHeard();
        int best = -1;
        int least = all.size();
        for (int d = 1; d <= 30; d++) {
            int some = 0;
            for (int coal : all) {
                some += leaves(coal, d) ? 1 : 0;
            }
            int greater = Math.max(some, all.size() - some);
            if (greater < least) {
                least = greater;
                best = d;
            }
        }
        return best;
    }

    int colder(int days, int more) {
        if (days < 1 || days > 30 || more < 0 || more > 3) {
            return -1;
        }
        return later(how, days, more).seizedBits();
    }

    int rests(int both, int loses, int gets, int what) {
        for (int n : new int[] {both, loses, gets}) {
            if (n < 0 || n > 9) {
                throw new NoSuchElementException();
            }
        }
        int[][] mine = {{0, gets}, {-loses, both}};
        List<Integer> found = new ArrayList<>();
        for (int a = 0; a < 2; a++) {
            for (int b = 0; b < 2; b++) {
                if (mine[1 - a][b] <= mine[a][b] && mine[1 - b][a] <= mine[b][a]) {
                    found.add(2 * a + b);
                }
            }
        }
        if (what == -1) {
            return found.size();
        }
        if (what < 0 || what >= found.size()) {
            throw new NoSuchElementException();
        }
        return found.get(what);
    }

    private long g;

    private int draw(int m) {
        g = (g * 1103515245L + 12345L) & 0x7fffffffL;
        return (int) ((g >> 16) % m);
    }

    int winters(int seed, int days, int what) {
        if (seed < 0 || seed > 9999 || days < 1 || days > 99 || what < 0 || what > 2) {
            return -1;
        }
        How h = new How(how);
        g = seed;
        int went = 0;
        for (int d = 0; d < days; d++) {
            int m = told.holes.size();
            if (m > 0) {
                for (int guest = 0; guest < told.guests.size(); guest++) {
                    int hole = draw(m);
                    boolean goes = h.where[guest] == -1 ? tryDown(h, guest, hole) : tryThrough(h, guest, hole);
                    went += goes ? 1 : 0;
                }
                doBring(h, draw(m));
            }
            doDay(h, 0);
        }
        return what == 0 ? went : what == 1 ? h.seizedBits() : Arrays.stream(h.coal).sum();
    }

    boolean mark(int mark, boolean back) {
        if (mark < 0 || mark > 3) {
            return false;
        }
        if (!back) {
            marks.put(mark, new Laid(new How(how), winter, new ArrayList<>(heard)));
            return true;
        }
        Laid laid = marks.get(mark);
        if (laid == null) {
            return false;
        }
        how = new How(laid.how);
        winter = laid.winter;
        heard = new ArrayList<>(laid.heard);
        past.clear();
        return true;
    }

    int count(int what) {
        int street = 0;
        for (int i = 0; i < how.where.length; i++) {
            street |= how.where[i] == -1 && !how.seized[i] ? 1 << i : 0;
        }
        int[] all = {told.holes.size(), told.guests.size(), told.sackHolds(), how.date, told.coldOf(how.date),
            Arrays.stream(how.coal).sum(), street, how.seizedBits(), how.brought, winter.size(), heard.size(),
            past.size(), tape.length()};
        return what < 0 || what >= all.length ? -1 : all[what];
    }
}

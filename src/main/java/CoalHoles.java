import java.util.NoSuchElementException;

/** Coal holes are embassies: terraces, their guests and their winters, as the document promises. */
public final class CoalHoles {
    public static final int NONE = -1;

    private static final int OTHERS = -2;
    private static final int MOST_SIGNS = 1000;
    private static final int MOST_HOLES = 5;
    private static final int MOST_GUESTS = 5;
    private static final int MOST_COLDS = 12;
    private static final int MOST_LINES = 40;
    private static final int MOST_HEARD = 8;
    private static final int MOST_UNDONE = 16;
    private static final int MOST_MARKS = 4;
    private static final int MOST_FLAG = 9;
    private static final int MOST_TOLD_COAL = 60;
    private static final int MOST_COAL = 99;
    private static final int MOST_SACKS = 3;
    private static final int MOST_DAYS = 30;
    private static final int LONGEST = 99;
    private static final int LINE_IN_THE_SLACK = 20;

    // Tokens; a sign is its own number.
    private static final int END = 0;
    private static final int BAD = 1;
    private static final int NUMBER = 2;
    private static final int NAME = 3;
    private static final int FIRST_WORD = 128;
    private static final int HOLE = 128;
    private static final int FLAG = 129;
    private static final int COAL = 130;
    private static final int BURNS = 131;
    private static final int WALL = 132;
    private static final int GUEST = 133;
    private static final int WAR = 134;
    private static final int COLD = 135;
    private static final int SACK = 136;
    private static final int TAKES = 137;
    private static final int DOWN = 138;
    private static final int UP = 139;
    private static final int THROUGH = 140;
    private static final int BRING = 141;
    private static final int DAY = 142;
    private static final int PLAIN = 143;
    private static final int WANTED = 144;
    private static final int ENVOY = 145;
    private static final int CAT = 146;
    private static final int NOT = 147;
    private static final int AND = 148;
    private static final int OR = 149;
    private static final int LEFT = 150;
    private static final int INSIDE = 151;
    private static final int SAME = 152;
    private static final int DATE = 153;

    /** In the order of their tokens; those from left on are facts, which may be names too. */
    private static final String WORDS = "hole flag coal burns wall guest war cold sack takes down up through bring day plain wanted envoy cat not and or left inside same date";
    private static final int WORD_SIGNS = 8;
    private static final int WORD_COUNT = 26;
    private static final int NUMBER_SIGNS = 4;

    private static final int CANT_STAND = 1;
    private static final int NOT_TOLD = 2;
    private static final int TOLD_ALREADY = 3;
    private static final int NOT_AS_TOLD = 4;
    private static final int TOO_MANY = 5;

    private final Tape tape = new Tape();
    private final State now = new State();
    private final State trial = new State();
    private final Heard heard = new Heard();
    private final Lodgings lodgings = new Lodgings();
    private final Mark[] marks = new Mark[MOST_MARKS];
    private final State[] past = new State[MOST_UNDONE];
    private Terrace told = new Terrace();
    private Terrace spareTerrace = new Terrace();
    private Winter plan = new Winter();
    private Winter sparePlan = new Winter();
    private int pastNext;
    private int pastCount;
    private long drawn;

    public CoalHoles() {
        for (int i = 0; i < MOST_MARKS; i++) {
            marks[i] = new Mark();
        }
        for (int i = 0; i < MOST_UNDONE; i++) {
            past[i] = new State();
        }
    }

    public int feed(long a, long b, long c) {
        tape.addBytes(a);
        tape.addBytes(b);
        tape.addBytes(c);
        return tape.length;
    }

    public int terrace() {
        int fault = spareTerrace.readFrom(tape);
        if (fault != 0) {
            return fault;
        }
        Terrace before = told;
        told = spareTerrace;
        spareTerrace = before;
        now.beginAt(told);
        plan.lines = 0;
        heard.size = 0;
        pastCount = 0;
        for (int i = 0; i < MOST_MARKS; i++) {
            marks[i].isLaid = false;
        }
        return 0;
    }

    public int winter() {
        int fault = sparePlan.readFrom(tape, told);
        if (fault != 0) {
            return fault;
        }
        Winter before = plan;
        plan = sparePlan;
        sparePlan = before;
        return 0;
    }

    public int hole(int hole, int what) {
        if (!told.hasHole(hole)) {
            return NONE;
        }
        switch (what) {
            case 0: return told.holeFlags[hole];
            case 1: return now.coal[hole];
            case 2: return told.burns[hole];
            case 3: return now.inside[hole];
            case 4: return told.beside[hole];
            case 5: return now.takenBits(told, hole);
            default: return NONE;
        }
    }

    public int guest(int guest, int what) {
        if (!told.hasGuest(guest)) {
            return OTHERS;
        }
        switch (what) {
            case 0: return told.kinds[guest] - PLAIN;
            case 1: return told.guestFlags[guest];
            case 2: return now.placeOf(guest);
            case 3: return now.seized >> guest & 1;
            case 4: return now.foesBits(told, guest);
            default: return OTHERS;
        }
    }

    public boolean down(int guest, int hole) {
        if (!now.canGoDown(told, guest, hole)) {
            return false;
        }
        remember();
        now.move(guest, hole);
        return true;
    }

    public boolean up(int guest) {
        if (!now.canClimb(told, guest)) {
            return false;
        }
        remember();
        now.move(guest, NONE);
        return true;
    }

    public boolean through(int guest, int hole) {
        if (!now.canGoThrough(told, guest, hole)) {
            return false;
        }
        remember();
        now.move(guest, hole);
        return true;
    }

    public int bring(int hole) {
        if (!told.hasHole(hole)) {
            return NONE;
        }
        remember();
        now.addSack(told, hole);
        return now.coal[hole];
    }

    public int day() {
        remember();
        return now.passDay(told);
    }

    public boolean undo() {
        if (pastCount == 0) {
            return false;
        }
        pastCount--;
        pastNext = (pastNext + MOST_UNDONE - 1) % MOST_UNDONE;
        now.copyFrom(past[pastNext]);
        return true;
    }

    public int judged(int what) {
        if (what < 0 || what > 2) {
            return OTHERS;
        }
        return plan.judge(told, trial, what);
    }

    public int lasts(int hole) {
        return told.hasHole(hole) ? now.daysUntilBelow(told, hole, 1) : NONE;
    }

    public int safe(int guest) {
        int place = told.hasGuest(guest) ? now.placeOf(guest) : NONE;
        return place == NONE ? NONE : now.safeDays(told, guest, place);
    }

    public int refuge(int guest) {
        if (!told.hasGuest(guest) || (now.streetBits(told) >> guest & 1) == 0) {
            return NONE;
        }
        int best = NONE;
        int longest = 0;
        for (int hole = 0; hole < told.holes; hole++) {
            if (now.takes(told, hole, guest)) {
                int days = now.safeDays(told, guest, hole);
                days = days == NONE ? LONGEST + 1 : days;
                if (days > longest) {
                    longest = days;
                    best = hole;
                }
            }
        }
        return best;
    }

    public int sacks(int days, int what) {
        if (!isWithin(days, 1, MOST_DAYS) || !isWithin(what, NONE, told.holes - 1)) {
            return OTHERS;
        }
        if ((now.streetBits(told) & told.wantedBits) != 0) {
            return OTHERS;
        }
        int all = 0;
        int asked = 0;
        // No hole warms another one: the fewest for each are the fewest in all, and in one row only.
        for (int hole = 0; hole < told.holes; hole++) {
            int due = now.sacksDue(told, hole, days);
            if (due > MOST_SACKS) {
                return OTHERS;
            }
            all += due;
            asked = hole == what ? due : asked;
        }
        return what == NONE ? all : asked;
    }

    public int lodging(int days, int guest) {
        if (!isWithin(days, 1, MOST_DAYS) || !isWithin(guest, NONE, told.guests - 1)) {
            return OTHERS;
        }
        trial.copyFrom(now);
        lodgings.search(told, trial, days);
        return guest == NONE ? lodgings.seized : lodgings.best[guest];
    }

    public int note(int from, int to) {
        if (!told.hasHole(from) || !told.hasHole(to)) {
            return NONE;
        }
        int reached = 1 << from;
        for (int walls = 0; walls < told.holes; walls++) {
            if ((reached >> to & 1) != 0) {
                return walls;
            }
            reached |= told.besideBits(reached);
        }
        return NONE;
    }

    public int full() {
        int street = now.streetBits(told);
        int bits = 0;
        for (int hole = 0; hole < told.holes; hole++) {
            if ((now.takenBits(told, hole) & street) == 0) {
                bits |= 1 << hole;
            }
        }
        return bits;
    }

    public int pairs() {
        int twice = 0;
        for (int guest = 0; guest < told.guests; guest++) {
            twice += Integer.bitCount(told.foes[guest]);
        }
        return twice / 2;
    }

    public int line(int guest, int other) {
        if (!told.areAtWar(guest, other)) {
            return NONE;
        }
        int place = now.placeOf(guest);
        if (place == NONE || place != now.placeOf(other)) {
            return NONE;
        }
        return now.daysUntilBelow(told, place, LINE_IN_THE_SLACK);
    }

    public boolean hear(int days, boolean some) {
        return isWithin(days, 1, MOST_DAYS) && heard.add(days, some);
    }

    public int coals(int what) {
        heard.narrow(told, now.date);
        int many = heard.many();
        switch (what) {
            case 0: return many;
            case 1: return many == 0 ? NONE : heard.least;
            case 2: return many == 0 ? NONE : heard.greatest;
            default: return NONE;
        }
    }

    public int ask() {
        heard.narrow(told, now.date);
        return heard.bestQuestion(told, now.date);
    }

    public int colder(int days, int more) {
        if (!isWithin(days, 1, MOST_DAYS) || !isWithin(more, 0, 3)) {
            return NONE;
        }
        int lasting = now.lastingBits(told, told.coldOver(now.date, days) + days * more);
        return now.seizedIfLasting(told, lasting);
    }

    public int rests(int both, int loses, int gets, int what) throws NoSuchElementException {
        if (!isWithin(both, 0, 9) || !isWithin(loses, 0, 9) || !isWithin(gets, 0, 9) || what < NONE) {
            throw new NoSuchElementException();
        }
        int found = 0;
        for (int choices = 0; choices < 4; choices++) {
            int first = choices >> 1;
            int other = choices & 1;
            // What one has more by holding than by letting go hangs only on what the other does.
            if (isContent(first, other == 1 ? both - gets : -loses)
                && isContent(other, first == 1 ? both - gets : -loses)) {
                if (found == what) {
                    return choices;
                }
                found++;
            }
        }
        if (what != NONE) {
            throw new NoSuchElementException();
        }
        return found;
    }

    public int winters(int seed, int days, int what) {
        if (!isWithin(seed, 0, 9999) || !isWithin(days, 1, LONGEST) || !isWithin(what, 0, 2)) {
            return NONE;
        }
        trial.copyFrom(now);
        drawn = seed;
        int went = 0;
        for (int day = 0; day < days; day++) {
            went += goByDraws();
            trial.passDay(told);
        }
        return what == 0 ? went : what == 1 ? trial.seized : trial.allCoal(told);
    }

    public boolean mark(int mark, boolean back) {
        if (!isWithin(mark, 0, MOST_MARKS - 1) || back && !marks[mark].isLaid) {
            return false;
        }
        if (back) {
            marks[mark].giveBack(now, plan, heard);
            pastCount = 0;
        } else {
            marks[mark].keep(now, plan, heard);
        }
        return true;
    }

    public int count(int what) {
        switch (what) {
            case 0: return told.holes;
            case 1: return told.guests;
            case 2: return told.sack;
            case 3: return now.date;
            case 4: return told.coldOf(now.date);
            case 5: return now.allCoal(told);
            case 6: return now.streetBits(told);
            case 7: return now.seized;
            case 8: return now.brought;
            case 9: return plan.lines;
            case 10: return heard.size;
            case 11: return pastCount;
            case 12: return tape.length;
            default: return NONE;
        }
    }

    private static boolean isWithin(int value, int least, int most) {
        return value >= least && value <= most;
    }

    private static boolean isFact(int token) {
        return isWithin(token, LEFT, DATE);
    }

    private static boolean isContent(int choice, int moreByHolding) {
        return choice == 1 ? moreByHolding >= 0 : moreByHolding <= 0;
    }

    private void remember() {
        past[pastNext].copyFrom(now);
        pastNext = (pastNext + 1) % MOST_UNDONE;
        pastCount = Math.min(pastCount + 1, MOST_UNDONE);
    }

    private int goByDraws() {
        if (told.holes == 0) {
            return 0;
        }
        int went = 0;
        for (int guest = 0; guest < told.guests; guest++) {
            int hole = drawBelow(told.holes);
            if (trial.canGoDown(told, guest, hole) || trial.canGoThrough(told, guest, hole)) {
                trial.move(guest, hole);
                went++;
            }
        }
        trial.addSack(told, drawBelow(told.holes));
        return went;
    }

    private int drawBelow(int bound) {
        drawn = (drawn * 1103515245L + 12345L) % 2147483648L;
        return bound > 0 ? (int) (drawn / 65536L % bound) : 0;
    }

    /** The signs that were fed; read token by token, up to the first fault. */
    private static final class Tape {
        private final byte[] signs = new byte[MOST_SIGNS];
        private final long[] words = new long[WORD_COUNT];
        private int behind;
        private int place;
        private int takenPlace;
        private long name;
        int length;
        int token;
        int number;
        int fault;

        Tape() {
            int word = 0;
            for (int i = 0; i < WORDS.length(); i++) {
                if (WORDS.charAt(i) == ' ') {
                    word++;
                } else if (word < WORD_COUNT) {
                    words[word] = words[word] << 8 | WORDS.charAt(i);
                }
            }
        }

        void addBytes(long bytes) {
            for (int shift = 56; shift >= 0; shift -= 8) {
                int sign = (int) (bytes >>> shift & 255);
                if ((sign == 10 || sign >= 32 && sign <= 126) && length < MOST_SIGNS) {
                    signs[length] = (byte) sign;
                    length++;
                }
            }
        }

        void begin() {
            behind = 0;
            fault = 0;
            next();
        }

        boolean isAtEnd() {
            return fault != 0 || token == END;
        }

        void next() {
            takenPlace = place;
            int at = behind;
            while (at < length && (signs[at] == 10 || signs[at] == 32)) {
                at++;
            }
            place = at;
            behind = at;
            if (at >= length) {
                token = END;
            } else if (isDigit(signs[at])) {
                takeNumber();
            } else if (isLetter(signs[at])) {
                takeWord();
            } else {
                // One that is no token is expected nowhere, so it needs no number of its own kind.
                behind = at + 1;
                token = signs[at];
            }
        }

        private void takeNumber() {
            number = 0;
            for (; behind < length && isDigit(signs[behind]); behind++) {
                if (behind - place < NUMBER_SIGNS) {
                    number = number * 10 + signs[behind] - '0';
                }
            }
            token = behind - place > NUMBER_SIGNS ? BAD : NUMBER;
        }

        private void takeWord() {
            name = 0;
            for (; behind < length && isLetter(signs[behind]); behind++) {
                if (behind - place < WORD_SIGNS) {
                    name = name << 8 | signs[behind];
                }
            }
            token = behind - place > WORD_SIGNS ? BAD : wordToken();
        }

        private int wordToken() {
            for (int i = 0; i < WORD_COUNT; i++) {
                if (words[i] == name) {
                    return FIRST_WORD + i;
                }
            }
            return NAME;
        }

        private static boolean isDigit(int sign) {
            return sign >= '0' && sign <= '9';
        }

        private static boolean isLetter(int sign) {
            return sign >= 'a' && sign <= 'z';
        }

        /** The token that is next is at fault, unless one ahead of it was. */
        void refuse(int kind) {
            if (fault == 0) {
                fault = kind + 16 * place;
            }
        }

        /** The token that was read last is at fault, unless one ahead of it was. */
        void refuseTaken(int kind) {
            if (fault == 0) {
                fault = kind + 16 * takenPlace;
            }
        }

        void expect(int due) {
            if (token != due) {
                refuse(CANT_STAND);
            }
            if (fault == 0) {
                next();
            }
        }

        /** The number that is due; the least one with a fault, so that it is always within. */
        int expectNumber(int least, int most) {
            int found = number;
            expect(NUMBER);
            if (fault == 0 && !isWithin(found, least, most)) {
                refuseTaken(NOT_AS_TOLD);
            }
            return fault == 0 ? found : least;
        }

        /** The name that is due; 0, which is nobody's, with a fault. Facts are not kept from being names. */
        long expectName() {
            long found = name;
            if (token != NAME && !isFact(token)) {
                refuse(CANT_STAND);
            }
            if (fault != 0) {
                return 0;
            }
            next();
            return found;
        }
    }

    /** The E of takes, kept in the order in which it is worked out: parts ahead of what joins them. */
    private static final class Law {
        // Numbers stand in the code as they are; all else stands this much higher.
        private static final int BEYOND_NUMBERS = 10000;
        private static final int MOST_NESTED = 5;
        // 4 operators can wait on each of 5 levels, and 4 brackets between them.
        private static final int MOST_WAITING = 32;
        private static final int COMPARING = 2;
        private final int[] code = new int[MOST_SIGNS];
        private final int[] stack = new int[MOST_WAITING];
        private int waiting;
        private int nested;
        int length;

        /** Up to the ; that ends it, which stays on the tape. */
        void readFrom(Tape tape) {
            waiting = 0;
            nested = 0;
            boolean isPartDue = true;
            for (int i = 0; i <= MOST_SIGNS && tape.fault == 0; i++) {
                if (isPartDue) {
                    isPartDue = !readPart(tape);
                } else if (tape.token == ')' && nested > 0) {
                    closeBracket(tape);
                } else if (tape.token == ';' && nested == 0) {
                    break;
                } else {
                    readOperator(tape);
                    isPartDue = true;
                }
            }
            emitDownTo(1);
        }

        /** True: a whole part was read; false: what was read wants a part behind it. */
        private boolean readPart(Tape tape) {
            int token = tape.token;
            boolean isWhole = token == NUMBER || isFact(token);
            if (!isWhole && token != NOT && token != '(') {
                tape.refuse(CANT_STAND);
                return false;
            }
            if (nested >= MOST_NESTED) {
                tape.refuse(TOO_MANY);
                return false;
            }
            if (isWhole) {
                emit(token == NUMBER ? tape.number : BEYOND_NUMBERS + token);
                closeNots();
            } else {
                push(token);
                nested++;
            }
            tape.next();
            return isWhole;
        }

        private void readOperator(Tape tape) {
            int rank = rankOf(tape.token);
            if (rank == 0) {
                tape.refuse(CANT_STAND);
                return;
            }
            emitDownTo(rank == COMPARING ? COMPARING + 1 : rank);
            if (rank == COMPARING && waiting > 0 && rankOf(stack[waiting - 1]) == COMPARING) {
                tape.refuse(CANT_STAND);
                return;
            }
            push(tape.token);
            tape.next();
        }

        private void closeBracket(Tape tape) {
            emitDownTo(1);
            pop();
            nested--;
            closeNots();
            tape.next();
        }

        private void closeNots() {
            while (waiting > 0 && stack[waiting - 1] == NOT) {
                waiting--;
                nested--;
                emit(BEYOND_NUMBERS + NOT);
            }
        }

        private void emitDownTo(int rank) {
            while (waiting > 0 && rankOf(stack[waiting - 1]) >= rank) {
                waiting--;
                emit(BEYOND_NUMBERS + stack[waiting]);
            }
        }

        private static int rankOf(int token) {
            switch (token) {
                case '*': return 4;
                case '+': case '-': return 3;
                case '<': case '=': return COMPARING;
                case AND: case OR: return 1;
                default: return 0;
            }
        }

        private void emit(int item) {
            if (length < MOST_SIGNS) {
                code[length] = item;
                length++;
            }
        }

        private void push(int value) {
            if (waiting < MOST_WAITING) {
                stack[waiting] = value;
                waiting++;
            }
        }

        private int pop() {
            if (waiting == 0) {
                return 0;
            }
            waiting--;
            return stack[waiting];
        }

        boolean allows(int left, int inside, int same, int date) {
            if (length == 0) {
                return inside * 4 < left;
            }
            waiting = 0;
            for (int i = 0; i < length; i++) {
                int item = code[i] - BEYOND_NUMBERS;
                switch (item) {
                    case LEFT: push(left); break;
                    case INSIDE: push(inside); break;
                    case SAME: push(same); break;
                    case DATE: push(date); break;
                    case NOT: push(pop() == 0 ? 1 : 0); break;
                    default: push(item < 0 ? code[i] : joined(item, pop(), pop()));
                }
            }
            return pop() != 0;
        }

        private static int joined(int operator, int second, int first) {
            switch (operator) {
                case '*': return first * second;
                case '+': return first + second;
                case '-': return first - second;
                case '<': return first < second ? 1 : 0;
                case '=': return first == second ? 1 : 0;
                case AND: return first != 0 && second != 0 ? 1 : 0;
                default: return first != 0 || second != 0 ? 1 : 0;
            }
        }
    }

    /** What a TERRACE tells, and what follows from that alone. */
    private static final class Terrace {
        private final long[] holeNames = new long[MOST_HOLES];
        private final long[] guestNames = new long[MOST_GUESTS];
        private final int[] flagsAtWar = new int[MOST_FLAG + 1];
        private final int[] cold = new int[MOST_COLDS];
        private int colds;
        final int[] holeFlags = new int[MOST_HOLES];
        final int[] coalTold = new int[MOST_HOLES];
        final int[] burns = new int[MOST_HOLES];
        final int[] beside = new int[MOST_HOLES];
        final int[] kinds = new int[MOST_GUESTS];
        final int[] guestFlags = new int[MOST_GUESTS];
        final int[] foes = new int[MOST_GUESTS];
        final Law law = new Law();
        int holes;
        int guests;
        int sack;
        int catBits;
        int wantedBits;

        Terrace() {
            settle();
        }

        /** 0, or the fault, by which this is no terrace. */
        int readFrom(Tape tape) {
            clear();
            tape.begin();
            for (int i = 0; i < MOST_SIGNS && !tape.isAtEnd(); i++) {
                switch (tape.token) {
                    case HOLE: readHole(tape); break;
                    case WALL: readWall(tape); break;
                    case GUEST: readGuest(tape); break;
                    case WAR: readWar(tape); break;
                    case COLD: readCold(tape); break;
                    case SACK: readSack(tape); break;
                    case TAKES: readTakes(tape); break;
                    default: tape.refuse(CANT_STAND);
                }
                tape.expect(';');
            }
            tape.length = 0;
            settle();
            return tape.fault;
        }

        private void clear() {
            for (int i = 0; i < MOST_HOLES; i++) {
                beside[i] = 0;
            }
            for (int i = 0; i <= MOST_FLAG; i++) {
                flagsAtWar[i] = 0;
            }
            holes = 0;
            guests = 0;
            colds = 0;
            sack = 0;
            law.length = 0;
        }

        private void readHole(Tape tape) {
            if (holes >= MOST_HOLES) {
                tape.refuse(TOO_MANY);
                return;
            }
            tape.next();
            holeNames[holes] = readNewName(tape);
            tape.expect(FLAG);
            holeFlags[holes] = tape.expectNumber(0, MOST_FLAG);
            tape.expect(COAL);
            coalTold[holes] = tape.expectNumber(0, MOST_TOLD_COAL);
            tape.expect(BURNS);
            burns[holes] = tape.expectNumber(0, 9);
            holes++;
        }

        private void readWall(Tape tape) {
            tape.next();
            int one = readHoleName(tape);
            int other = readHoleName(tape);
            if (one == NONE || other == NONE) {
                return;
            }
            if (one == other || (beside[one] >> other & 1) != 0) {
                tape.refuseTaken(TOLD_ALREADY);
            }
            beside[one] |= 1 << other;
            beside[other] |= 1 << one;
        }

        private void readGuest(Tape tape) {
            if (guests >= MOST_GUESTS) {
                tape.refuse(TOO_MANY);
                return;
            }
            tape.next();
            guestNames[guests] = readNewName(tape);
            kinds[guests] = tape.token;
            tape.expect(isWithin(tape.token, PLAIN, CAT) ? tape.token : PLAIN);
            tape.expect(FLAG);
            guestFlags[guests] = tape.expectNumber(0, MOST_FLAG);
            guests++;
        }

        private void readWar(Tape tape) {
            tape.next();
            int one = tape.expectNumber(0, MOST_FLAG);
            int other = tape.expectNumber(0, MOST_FLAG);
            if (one == other || (flagsAtWar[one] >> other & 1) != 0) {
                tape.refuseTaken(TOLD_ALREADY);
            }
            flagsAtWar[one] |= 1 << other;
            flagsAtWar[other] |= 1 << one;
        }

        private void readCold(Tape tape) {
            if (colds > 0) {
                tape.refuse(TOLD_ALREADY);
                return;
            }
            tape.next();
            for (int i = 0; i <= MOST_COLDS && (i == 0 || tape.token == NUMBER); i++) {
                int degree = tape.expectNumber(0, 3);
                if (i < MOST_COLDS) {
                    cold[i] = degree;
                    colds = i + 1;
                } else {
                    tape.refuseTaken(TOO_MANY);
                }
            }
        }

        private void readSack(Tape tape) {
            if (sack > 0) {
                tape.refuse(TOLD_ALREADY);
                return;
            }
            tape.next();
            sack = tape.expectNumber(1, 20);
        }

        private void readTakes(Tape tape) {
            if (law.length > 0) {
                tape.refuse(TOLD_ALREADY);
                return;
            }
            tape.next();
            law.readFrom(tape);
        }

        private long readNewName(Tape tape) {
            long name = tape.expectName();
            if (indexOf(holeNames, holes, name) != NONE || indexOf(guestNames, guests, name) != NONE) {
                tape.refuseTaken(TOLD_ALREADY);
            }
            return name;
        }

        int readHoleName(Tape tape) {
            return known(tape, indexOf(holeNames, holes, tape.expectName()));
        }

        int readGuestName(Tape tape) {
            return known(tape, indexOf(guestNames, guests, tape.expectName()));
        }

        private static int known(Tape tape, int index) {
            if (index == NONE) {
                tape.refuseTaken(NOT_TOLD);
            }
            return index;
        }

        private static int indexOf(long[] names, int many, long name) {
            for (int i = 0; i < many && i < names.length; i++) {
                if (names[i] == name) {
                    return i;
                }
            }
            return NONE;
        }

        private void settle() {
            if (sack == 0) {
                sack = 5;
            }
            catBits = bitsOfKind(CAT);
            wantedBits = bitsOfKind(WANTED);
            for (int guest = 0; guest < guests; guest++) {
                foes[guest] = 0;
                for (int other = 0; other < guests; other++) {
                    foes[guest] |= (flagsAtWar[guestFlags[guest]] >> guestFlags[other] & 1) << other;
                }
            }
        }

        private int bitsOfKind(int kind) {
            int bits = 0;
            for (int guest = 0; guest < guests; guest++) {
                bits |= kinds[guest] == kind ? 1 << guest : 0;
            }
            return bits;
        }

        boolean hasHole(int hole) {
            return hole >= 0 && hole < holes;
        }

        boolean hasGuest(int guest) {
            return guest >= 0 && guest < guests;
        }

        boolean areAtWar(int guest, int other) {
            return hasGuest(guest) && hasGuest(other) && (foes[guest] >> other & 1) != 0;
        }

        int besideBits(int holeBits) {
            int bits = 0;
            for (int hole = 0; hole < holes; hole++) {
                bits |= (holeBits >> hole & 1) != 0 ? beside[hole] : 0;
            }
            return bits;
        }

        int coldOf(int date) {
            return colds > 0 && date >= 0 ? cold[date % colds] : 1;
        }

        int coldOver(int date, int days) {
            int sum = 0;
            for (int i = 0; i < days; i++) {
                sum += coldOf(date + i);
            }
            return sum;
        }
    }

    /** How it is on a TERRACE: all that hands and days change. */
    private static final class State {
        final int[] coal = new int[MOST_HOLES];
        final int[] inside = new int[MOST_HOLES];
        int seized;
        int date;
        int brought;

        void beginAt(Terrace terrace) {
            for (int hole = 0; hole < MOST_HOLES; hole++) {
                coal[hole] = terrace.coalTold[hole];
                inside[hole] = 0;
            }
            seized = 0;
            date = 0;
            brought = 0;
        }

        void copyFrom(State other) {
            for (int hole = 0; hole < MOST_HOLES; hole++) {
                coal[hole] = other.coal[hole];
                inside[hole] = other.inside[hole];
            }
            seized = other.seized;
            date = other.date;
            brought = other.brought;
        }

        int placeOf(int guest) {
            for (int hole = 0; hole < MOST_HOLES; hole++) {
                if ((inside[hole] >> guest & 1) != 0) {
                    return hole;
                }
            }
            return NONE;
        }

        /** Who is in the street, not SEIZED. */
        int streetBits(Terrace terrace) {
            int housed = 0;
            for (int hole = 0; hole < terrace.holes; hole++) {
                housed |= inside[hole];
            }
            return (1 << terrace.guests) - 1 & ~housed & ~seized;
        }

        int foesBits(Terrace terrace, int guest) {
            if ((seized >> guest & 1) != 0) {
                return 0;
            }
            int place = placeOf(guest);
            return terrace.foes[guest] & (place == NONE ? streetBits(terrace) : inside[place]);
        }

        int allCoal(Terrace terrace) {
            int sum = 0;
            for (int hole = 0; hole < terrace.holes; hole++) {
                sum += coal[hole];
            }
            return sum;
        }

        boolean takes(Terrace terrace, int hole, int guest) {
            int kind = terrace.kinds[guest];
            return kind == CAT || isPeaceful(terrace, hole, guest) && (kind == ENVOY
                || isLawful(terrace, hole, Integer.bitCount(inside[hole]), terrace.guestFlags[guest]));
        }

        /** All that a HOLE asks of one who is no cat but the law: coal, and no war below. */
        boolean isPeaceful(Terrace terrace, int hole, int guest) {
            return coal[hole] > 0
                && (coal[hole] >= LINE_IN_THE_SLACK || (inside[hole] & terrace.foes[guest]) == 0);
        }

        boolean isLawful(Terrace terrace, int hole, int many, int flag) {
            return terrace.law.allows(coal[hole], many, terrace.holeFlags[hole] == flag ? 1 : 0, date);
        }

        /** Who is not in the HOLE, and would be taken. */
        int takenBits(Terrace terrace, int hole) {
            int bits = 0;
            for (int guest = 0; guest < terrace.guests; guest++) {
                if ((inside[hole] >> guest & 1) == 0 && takes(terrace, hole, guest)) {
                    bits |= 1 << guest;
                }
            }
            return bits;
        }

        boolean canGoDown(Terrace terrace, int guest, int hole) {
            return terrace.hasGuest(guest) && terrace.hasHole(hole)
                && (streetBits(terrace) >> guest & 1) != 0 && takes(terrace, hole, guest);
        }

        boolean canClimb(Terrace terrace, int guest) {
            return terrace.hasGuest(guest) && placeOf(guest) != NONE;
        }

        boolean canGoThrough(Terrace terrace, int guest, int hole) {
            return canClimb(terrace, guest) && terrace.hasHole(hole)
                && (terrace.beside[hole] >> placeOf(guest) & 1) != 0 && takes(terrace, hole, guest);
        }

        void move(int guest, int hole) {
            for (int i = 0; i < MOST_HOLES; i++) {
                inside[i] &= ~(1 << guest);
                inside[i] |= i == hole ? 1 << guest : 0;
            }
        }

        void addSack(Terrace terrace, int hole) {
            coal[hole] = Math.min(coal[hole] + terrace.sack, MOST_COAL);
            brought++;
        }

        /** Who is SEIZED by it. */
        int passDay(Terrace terrace) {
            int cold = terrace.coldOf(date);
            for (int hole = 0; hole < terrace.holes; hole++) {
                coal[hole] = Math.max(coal[hole] - terrace.burns[hole] * cold, 0);
                if (coal[hole] == 0) {
                    inside[hole] &= terrace.catBits;
                }
            }
            int fresh = streetBits(terrace) & terrace.wantedBits;
            seized |= fresh;
            date++;
            return fresh;
        }

        int daysUntilBelow(Terrace terrace, int hole, int bound) {
            int left = coal[hole];
            for (int days = 0; days <= LONGEST; days++) {
                if (left < bound) {
                    return days;
                }
                left -= terrace.burns[hole] * terrace.coldOf(date + days);
            }
            return NONE;
        }

        /** NONE is for ever, or longer than can be told. */
        int safeDays(Terrace terrace, int guest, int hole) {
            return terrace.kinds[guest] == CAT ? NONE : daysUntilBelow(terrace, hole, 1);
        }

        /** HOLES that have coal behind so much cold in all. */
        int lastingBits(Terrace terrace, int cold) {
            int bits = 0;
            for (int hole = 0; hole < terrace.holes; hole++) {
                bits |= coal[hole] > terrace.burns[hole] * cold ? 1 << hole : 0;
            }
            return bits;
        }

        /** Who is SEIZED, or will be with only those HOLES lasting. */
        int seizedIfLasting(Terrace terrace, int lasting) {
            int endangered = streetBits(terrace);
            for (int hole = 0; hole < terrace.holes; hole++) {
                endangered |= (lasting >> hole & 1) == 0 ? inside[hole] : 0;
            }
            return seized | endangered & terrace.wantedBits;
        }

        /** The fewest by which nobody in the HOLE is SEIZED; more than may be, if none help. */
        int sacksDue(Terrace terrace, int hole, int days) {
            if ((inside[hole] & terrace.wantedBits) == 0) {
                return 0;
            }
            int burnt = terrace.burns[hole] * terrace.coldOver(date, days);
            for (int many = 0; many <= MOST_SACKS; many++) {
                if (Math.min(coal[hole] + many * terrace.sack, MOST_COAL) > burnt) {
                    return many;
                }
            }
            return MOST_SACKS + 1;
        }
    }

    /** The lines of a WINTER. */
    private static final class Winter {
        private final byte[] guests = new byte[MOST_LINES];
        private final byte[] holes = new byte[MOST_LINES];
        private final int[] verbs = new int[MOST_LINES];
        int lines;

        /** 0, or the fault, by which this is no winter. */
        int readFrom(Tape tape, Terrace terrace) {
            lines = 0;
            tape.begin();
            for (int i = 0; i < MOST_SIGNS && !tape.isAtEnd(); i++) {
                readLine(tape, terrace);
                tape.expect(';');
            }
            tape.length = 0;
            return tape.fault;
        }

        private void readLine(Tape tape, Terrace terrace) {
            int verb = tape.token;
            if (!isWithin(verb, DOWN, DAY)) {
                tape.refuse(CANT_STAND);
                return;
            }
            if (lines >= MOST_LINES) {
                tape.refuse(TOO_MANY);
                return;
            }
            tape.next();
            verbs[lines] = verb;
            boolean hasGuest = verb == DOWN || verb == UP || verb == THROUGH;
            boolean hasHole = verb == DOWN || verb == THROUGH || verb == BRING;
            guests[lines] = (byte) (hasGuest ? terrace.readGuestName(tape) : NONE);
            holes[lines] = (byte) (hasHole ? terrace.readHoleName(tape) : NONE);
            lines++;
        }

        void copyFrom(Winter other) {
            for (int i = 0; i < MOST_LINES; i++) {
                guests[i] = other.guests[i];
                holes[i] = other.holes[i];
                verbs[i] = other.verbs[i];
            }
            lines = other.lines;
        }

        /** What 0: the first line that can't be, 1: the first by which somebody is SEIZED, 2: sacks. */
        int judge(Terrace terrace, State state, int what) {
            int impossible = NONE;
            int seizing = NONE;
            state.beginAt(terrace);
            for (int i = 0; i < lines; i++) {
                int seizedAhead = state.seized;
                if (!follow(terrace, state, i) && impossible == NONE) {
                    impossible = i;
                }
                if (state.seized != seizedAhead && seizing == NONE) {
                    seizing = i;
                }
            }
            return what == 0 ? impossible : what == 1 ? seizing : state.brought;
        }

        private boolean follow(Terrace terrace, State state, int line) {
            int guest = guests[line];
            int hole = holes[line];
            boolean canBe;
            switch (verbs[line]) {
                case DOWN: canBe = state.canGoDown(terrace, guest, hole); break;
                case UP: canBe = state.canClimb(terrace, guest); break;
                case THROUGH: canBe = state.canGoThrough(terrace, guest, hole); break;
                case BRING:
                    if (terrace.hasHole(hole)) {
                        state.addSack(terrace, hole);
                    }
                    return true;
                default:
                    state.passDay(terrace);
                    return true;
            }
            if (canBe) {
                // An UP has no hole: NONE, the street.
                state.move(guest, hole);
            }
            return canBe;
        }
    }

    /** What was HEARD of the HOLE nobody has seen; told by days from now, whenever now is. */
    private static final class Heard {
        private static final int BURNS_UNSEEN = 2;
        private final int[] days = new int[MOST_HEARD];
        private final boolean[] isSome = new boolean[MOST_HEARD];
        int size;
        int least;
        int greatest;

        boolean add(int behind, boolean some) {
            if (size >= MOST_HEARD) {
                return false;
            }
            days[size] = behind;
            isSome[size] = some;
            size++;
            return true;
        }

        void copyFrom(Heard other) {
            for (int i = 0; i < MOST_HEARD; i++) {
                days[i] = other.days[i];
                isSome[i] = other.isSome[i];
            }
            size = other.size;
        }

        /** Each thing heard cuts the COALS from below or from above: they are always a row without gaps. */
        void narrow(Terrace terrace, int date) {
            least = 0;
            greatest = MOST_TOLD_COAL;
            for (int i = 0; i < size; i++) {
                int burnt = BURNS_UNSEEN * terrace.coldOver(date, days[i]);
                if (isSome[i]) {
                    least = Math.max(least, burnt + 1);
                } else {
                    greatest = Math.min(greatest, burnt);
                }
            }
        }

        int many() {
            return Math.max(greatest - least + 1, 0);
        }

        int bestQuestion(Terrace terrace, int date) {
            int best = NONE;
            int fewest = many();
            int burnt = 0;
            for (int behind = 1; behind <= MOST_DAYS; behind++) {
                burnt += BURNS_UNSEEN * terrace.coldOf(date + behind - 1);
                int empty = Math.max(Math.min(burnt, greatest) - least + 1, 0);
                int greater = Math.max(empty, many() - empty);
                if (greater < fewest) {
                    fewest = greater;
                    best = behind;
                }
            }
            return best;
        }
    }

    /** A MARK: how it was, the WINTER, what was HEARD. */
    private static final class Mark {
        private final State state = new State();
        private final Winter winter = new Winter();
        private final Heard heard = new Heard();
        boolean isLaid;

        void keep(State now, Winter plan, Heard news) {
            state.copyFrom(now);
            winter.copyFrom(plan);
            heard.copyFrom(news);
            isLaid = true;
        }

        void giveBack(State now, Winter plan, Heard news) {
            now.copyFrom(state);
            plan.copyFrom(winter);
            news.copyFrom(heard);
        }
    }

    /** The search for a LODGING. */
    private static final class Lodgings {
        // More than all who could be out of HOLES together cost.
        private static final int COST_SEIZED = 16;
        private final int[] row = new int[MOST_GUESTS];
        private final int[] leastFrom = new int[MOST_GUESTS + 1];
        // By hole and by whether the flag is the same: bits, by how many are inside.
        private final int[] lawful = new int[MOST_HOLES * 2];
        private int street;
        private int lasting;
        private int bestCost;
        final int[] best = new int[MOST_GUESTS];
        int seized;

        /** The state is used for the search, and is as before behind it. */
        void search(Terrace terrace, State state, int days) {
            street = state.streetBits(terrace);
            lasting = state.lastingBits(terrace, terrace.coldOver(state.date, days));
            int others = state.seizedIfLasting(terrace, lasting) & ~street;
            if (street != 0) {
                learnLaw(terrace, state);
            }
            leastFrom[terrace.guests] = 0;
            for (int guest = terrace.guests - 1; guest >= 0; guest--) {
                leastFrom[guest] = leastFrom[guest + 1] + (isLodged(guest) ? leastCost(terrace, state, guest) : 0);
            }
            bestCost = Integer.MAX_VALUE;
            lodge(this, terrace, state, 0, 0);
            seized = Integer.bitCount(others) + bestCost / COST_SEIZED;
        }

        private boolean isLodged(int guest) {
            return (street >> guest & 1) != 0;
        }

        /** The law is asked of each case once, not at each of the thousands of tries. */
        private void learnLaw(Terrace terrace, State state) {
            for (int hole = 0; hole < terrace.holes; hole++) {
                lawful[hole * 2] = 0;
                lawful[hole * 2 + 1] = 0;
                for (int many = 0; many < terrace.guests; many++) {
                    int flag = terrace.holeFlags[hole];
                    lawful[hole * 2] |= state.isLawful(terrace, hole, many, NONE) ? 1 << many : 0;
                    lawful[hole * 2 + 1] |= state.isLawful(terrace, hole, many, flag) ? 1 << many : 0;
                }
            }
        }

        private boolean isTaken(Terrace terrace, State state, int hole, int guest) {
            return terrace.kinds[guest] == CAT
                || state.isPeaceful(terrace, hole, guest) && (lawfulFromNow(terrace, state, hole, guest) & 1) != 0;
        }

        /** Whether the law lets him in now, and if more are inside, as bits. */
        private int lawfulFromNow(Terrace terrace, State state, int hole, int guest) {
            if (terrace.kinds[guest] == ENVOY) {
                return 1;
            }
            int same = terrace.holeFlags[hole] == terrace.guestFlags[guest] ? 1 : 0;
            return lawful[hole * 2 + same] >> Integer.bitCount(state.inside[hole]);
        }

        private int costOf(Terrace terrace, int guest, int hole) {
            int kind = terrace.kinds[guest];
            if (hole != NONE && (kind == CAT || (lasting >> hole & 1) != 0)) {
                return 0;
            }
            return kind == WANTED ? COST_SEIZED + 1 : 1;
        }

        private int leastCost(Terrace terrace, State state, int guest) {
            int cost = costOf(terrace, guest, NONE);
            for (int hole = 0; hole < terrace.holes; hole++) {
                if (terrace.kinds[guest] == CAT || lawfulFromNow(terrace, state, hole, guest) != 0) {
                    cost = Math.min(cost, costOf(terrace, guest, hole));
                }
            }
            return cost;
        }

        /** Rows come in their order, so a later one has to be better, not as good; as deep as there are guests. */
        private static void lodge(Lodgings search, Terrace terrace, State state, int guest, int cost) {
            if (guest > terrace.guests || cost + search.leastFrom[guest] >= search.bestCost) {
                return;
            }
            if (guest == terrace.guests) {
                search.keepRow(guest, cost);
                return;
            }
            if (search.isLodged(guest)) {
                for (int hole = 0; hole < terrace.holes; hole++) {
                    if (search.isTaken(terrace, state, hole, guest)) {
                        search.row[guest] = hole;
                        state.inside[hole] |= 1 << guest;
                        lodge(search, terrace, state, guest + 1, cost + search.costOf(terrace, guest, hole));
                        state.inside[hole] &= ~(1 << guest);
                    }
                }
                cost += search.costOf(terrace, guest, NONE);
            }
            search.row[guest] = NONE;
            lodge(search, terrace, state, guest + 1, cost);
        }

        private void keepRow(int guests, int cost) {
            bestCost = cost;
            for (int guest = 0; guest < guests; guest++) {
                best[guest] = row[guest];
            }
        }
    }
}

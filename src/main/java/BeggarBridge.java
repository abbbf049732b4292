import java.util.Arrays;

/** A county whose bridges are lawful so long as one who has nothing sits on each: see the document. */
public final class BeggarBridge {
    public static final int BAD = -1, NOT = -2, FULL = -3, STATE = -5, VOID = -2000000000;

    private static final int MISSING = -11, OTHER_KIND = -12, NO_PLACE = -13, BELOW_NOTHING = -14;
    private static final int FINE = 0;

    private static final int BRIDGES = 8, BEGGARS = 9, PLACES = 8;
    private static final int MOST = 99, DAYS_AHEAD = 60, TURN_DAYS = 20, MOST_TURNS = 3, MOVE_DAYS = 20;
    private static final int NOWHERE = -1, NOBODY = 9, ALL = -1;
    private static final int MOST_FINE = 9999, MOST_ALMS = 9;

    private static final int SPAN = 0, SOUND = 1, ALMS = 2, MEANS = 3, ASKS = 4, SPENDS = 5, SITS = 6,
            POOR = 7, DAY = 8, FROM = 9, TO = 10;

    private static final int LED_DAYS = 0, LED_SEATS = 1, LED_GIVEN = 2, LED_MENDED = 3, LED_FELL = 4;

    private final County county;
    private final Tape tape;
    private final Law law;
    private final Thought thought;
    private final Turns turns;
    private final Seats seats;
    private final Ways ways;
    private final Changes changes;
    private final Ledger ledger;
    private final Arches arches;
    private final Shelves shelves;

    public BeggarBridge() {
        county = new County();
        tape = new Tape();
        law = new Law();
        thought = new Thought(county, law);
        turns = new Turns(thought);
        seats = new Seats(county);
        ways = new Ways(county);
        changes = new Changes();
        ledger = new Ledger();
        arches = new Arches();
        shelves = new Shelves();
    }

    // ---- bridges, beggars

    public int bridge(int ft, int span) {
        if (!isPair(ft) || !county.allows(SPAN, span)) {
            return BAD;
        }
        return county.addBridge(ft / 10, ft % 10, span);
    }

    public int beggar(int asks, int spends) {
        if (!county.allows(ASKS, asks) || !county.allows(SPENDS, spends)) {
            return BAD;
        }
        return county.addBeggar(0, asks, spends, NOWHERE);
    }

    public int beggars(int shelf, int i, int n) {
        if (!shelves.has(shelf) || !isWithin(n, 1, BEGGARS)) {
            return BAD;
        }
        int refusal = shelves.refusalOfBytes(shelf);
        if (refusal != FINE) {
            return refusal == MISSING ? 0 : refusal;
        }
        int came = 0;
        // a long, so that a place near the greatest int does not wrap
        long at = i;
        while (came < n && at >= 0 && at + 4 <= shelves.sizeOf(shelf) && comes(shelf, (int) at)) {
            came++;
            at += 4;
        }
        return came;
    }

    private boolean comes(int shelf, int at) {
        int means = (int) shelves.at(shelf, at);
        int asks = (int) shelves.at(shelf, at + 1);
        int spends = (int) shelves.at(shelf, at + 2);
        int seat = (int) shelves.at(shelf, at + 3);
        boolean so = county.allows(MEANS, means) && county.allows(ASKS, asks)
                && county.allows(SPENDS, spends) && county.allows(SITS, seat);
        return so && county.addBeggar(means, asks, spends, seat) >= 0;
    }

    public int mend(int number, int what, int v) {
        if (!isWithin(what, SPAN, DAY) || !county.holds(number, what) || !county.allows(what, v)) {
            return VOID;
        }
        int was = county.read(number, what);
        if (was != v) {
            changes.add(number, what, was, v);
            county.write(number, what, v);
        }
        return was;
    }

    public int of(int number, int what) {
        return county.holds(number, what) ? county.read(number, what) : VOID;
    }

    public int feed(int letter) {
        return isWithin(letter, 0, 255) ? tape.take(letter) : BAD;
    }

    public int law() {
        int fault = tape.compile();
        if (fault < 0) {
            law.become(tape);
        }
        tape.clear();
        return fault < 0 ? 1 : -100 - fault;
    }

    public int cracks(int bridge) {
        if (!county.hasBridge(bridge)) {
            return BAD;
        }
        county.tally();
        return law.crackOn(county, bridge);
    }

    // ---- days in thought

    public int later(int n, int number, int what) {
        if (!isWithin(n, 0, DAYS_AHEAD)) {
            return BAD;
        }
        if (what == 0 && county.hasBridge(number)) {
            return thought.soundOf(county, number, n);
        }
        if (what == 1 && county.hasBeggar(number)) {
            return thought.meansOf(number, n);
        }
        return BAD;
    }

    public int county(int n, int what) {
        if (!isWithin(n, 0, DAYS_AHEAD) || !isWithin(what, 0, 2)) {
            return BAD;
        }
        County then = thought.behind(n);
        if (what == 0) {
            return then.standing();
        }
        return what == 1 ? then.soundOfAll() : then.haveNothing();
    }

    public int falls(int bridge) {
        if (bridge == ALL) {
            return thought.firstToFall();
        }
        return county.hasBridge(bridge) ? thought.fallOf(county, bridge) : BAD;
    }

    public int rich(int beggar) {
        return county.hasBeggar(beggar) ? thought.richDay(beggar) : BAD;
    }

    public int without(int bridge) {
        return county.hasBridge(bridge) ? thought.fallWithout(bridge) : BAD;
    }

    public int moved(int n, int what) {
        if (!isWithin(n, 0, MOVE_DAYS) || !isWithin(what, 0, 2)) {
            return BAD;
        }
        thought.weighStaying(n);
        for (int b = 0; b < county.beggars; b++) {
            thought.weighMovesOf(b, n);
        }
        if (what == 2) {
            return thought.bestMove;
        }
        return what == 0 ? thought.bestScore / Thought.A_BRIDGE : thought.bestScore % Thought.A_BRIDGE;
    }

    public int lasting(int bridge) {
        if (bridge != ALL && !county.hasBridge(bridge)) {
            return BAD;
        }
        seats.ask();
        return bridge == ALL ? seats.most(0, 0) : seats.whoSitsOn(bridge);
    }

    // ---- ways

    public int way(int ft, int what) {
        if (!isPair(ft) || !isWithin(what, 0, 3)) {
            return BAD;
        }
        if (what < 2) {
            int cost = ways.cheapest(ft / 10, ft % 10);
            if (cost < 0) {
                return NOT;
            }
            return what == 0 ? cost / Ways.A_SPAN : cost % Ways.A_SPAN;
        }
        int parting = ways.parting(ft / 10, ft % 10);
        return what == 2 ? Integer.bitCount(parting) : parting;
    }

    public int needed() {
        return ways.neededOnes();
    }

    // ---- books

    public int judge(int shelf, int bridge) {
        if (!shelves.has(shelf) || !county.hasBridge(bridge)) {
            return BAD;
        }
        int refusal = shelves.refusalOfBytes(shelf);
        return refusal != FINE ? refusal : thought.firstWrong(county, bridge, shelves, shelf);
    }

    public int fits(int shelf, int bridge, int number, int what) {
        if (!shelves.has(shelf) || !county.hasBridge(bridge) || !isWithin(what, 0, 3)) {
            return BAD;
        }
        boolean ofMeans = what < 2;
        if (ofMeans ? !county.hasBeggar(number) : !county.hasBridge(number)) {
            return BAD;
        }
        int refusal = shelves.refusalOfBytes(shelf);
        if (refusal != FINE) {
            return refusal;
        }
        thought.tryBook(number, ofMeans ? MEANS : ALMS, bridge, shelves, shelf);
        return what % 2 == 0 ? thought.fitting : thought.leastFitting;
    }

    public int fined(int beggar, int v) {
        if (!county.hasBeggar(beggar) || !isWithin(v, 0, MOST_FINE)) {
            return BAD;
        }
        int all = 0;
        for (int b = 0; b < county.beggars; b++) {
            all += county.savings(b);
        }
        return all <= 0 ? 0 : v * county.savings(beggar) / all;
    }

    public int claim(int place) {
        return isWithin(place, 0, PLACES - 1) ? county.claimAt(place) : BAD;
    }

    public int byTurns(int bridge, int nt, int what) {
        int n = nt / 100;
        int t = nt % 100;
        boolean so = isWithin(n, 1, MOST_TURNS) && isWithin(t, 0, TURN_DAYS) && isWithin(what, 0, 1);
        if (!so || !county.hasBridge(bridge)) {
            return BAD;
        }
        turns.begin(county, bridge, n, t);
        // SOUND never grows, nor is it below 0: nobody can do better than these two
        int sound = turns.outcome(n, 0, county.read(bridge, SOUND));
        return what == 0 ? sound : turns.first;
    }

    public int drawn(int seed, int nml, int bridge) {
        int n = nml / 10000;
        int m = nml / 100 % 100;
        int luck = nml % 100;
        if (!isWithin(n, 1, 30) || !isWithin(m, 1, DAYS_AHEAD) || !isWithin(luck, 0, 12)) {
            return BAD;
        }
        if (bridge != ALL && !county.hasBridge(bridge)) {
            return BAD;
        }
        return thought.drawnStanding(seed, n, m, luck, bridge);
    }

    // ---- in deed

    public int day() {
        int before = county.standing();
        county.passDay(law);
        int after = county.standing();
        ledger.add(LED_DAYS, 1);
        ledger.add(LED_FELL, Integer.bitCount(before & ~after));
        return Integer.bitCount(after);
    }

    public int sits(int beggar, int bridge) {
        if (!county.hasBeggar(beggar) || !county.allows(SITS, bridge)) {
            return VOID;
        }
        int was = county.read(beggar, SITS);
        county.write(beggar, SITS, bridge);
        ledger.add(LED_SEATS, 1);
        return was;
    }

    public int given(int beggar, int v) {
        if (!county.hasBeggar(beggar) || !isWithin(v, 1, MOST)) {
            return BAD;
        }
        ledger.add(LED_GIVEN, v);
        return county.raise(beggar, MEANS, v);
    }

    public int repair(int bridge, int v) {
        if (!county.hasBridge(bridge) || !isWithin(v, 1, MOST)) {
            return BAD;
        }
        ledger.add(LED_MENDED, v);
        return county.raise(bridge, SOUND, v);
    }

    public int led(int what) {
        return isWithin(what, LED_DAYS, LED_FELL) ? ledger.told(what) : BAD;
    }

    public int image() {
        ledger.keepOf(county);
        return ledger.told(LED_DAYS);
    }

    public int back() {
        if (!ledger.hasImage) {
            return STATE;
        }
        ledger.layBack(county);
        return ledger.told(LED_DAYS);
    }

    public int undo() {
        return changes.takeBack(county);
    }

    public int redo() {
        return changes.doAgain(county);
    }

    // ---- acts, shelves

    public int body(int kind) {
        return isWithin(kind, 0, Arches.KINDS - 1) ? arches.add(kind) : BAD;
    }

    public int act(int body, int act, int x) {
        return arches.perform(body, act, x);
    }

    public int trace(int i) {
        return arches.begunAt(i);
    }

    public int keep(int shelf, int body) {
        if (!shelves.has(shelf) || body != -1 && !arches.has(body)) {
            return BAD;
        }
        if (body == -1) {
            shelves.empty(shelf);
        } else {
            shelves.holdArch(shelf, body);
        }
        return 1;
    }

    public int row(int shelf, int sort, int n) {
        if (!shelves.has(shelf) || !isWithin(sort, 0, Shelves.BOOLEANS) || n > Shelves.LONGEST) {
            return BAD;
        }
        if (n < 0) {
            return BELOW_NOTHING;
        }
        shelves.holdRow(shelf, sort, n);
        return 1;
    }

    public int put(int shelf, int i, long v) {
        int refusal = shelves.refusalOfPlace(shelf, i);
        if (refusal != FINE) {
            return refusal;
        }
        shelves.set(shelf, i, v);
        return 1;
    }

    public long element(int shelf, int i) {
        return shelves.refusalOfPlace(shelf, i) == FINE ? shelves.at(shelf, i) : Long.MIN_VALUE;
    }

    public int shift(int shelf, int i, int other, int j, int n) {
        int refusal = shelves.refusalOfPair(shelf, other);
        if (refusal != FINE) {
            return refusal;
        }
        if (!shelves.hasRun(shelf, i, n) || !shelves.hasRun(other, j, n)) {
            return NO_PLACE;
        }
        shelves.copyRun(shelf, i, other, j, n);
        return n;
    }

    public int taken(int shelf, int k) {
        if (!shelves.has(shelf) || !isWithin(k, 0, Arches.KINDS - 1)) {
            return BAD;
        }
        if (shelves.isEmpty(shelf)) {
            return MISSING;
        }
        int held = shelves.archOn(shelf);
        return arches.has(held) && arches.isUnder(held, k) ? arches.kindOf(held) : OTHER_KIND;
    }

    public int count(int what) {
        switch (what) {
            case 0: return county.bridges;
            case 1: return county.beggars;
            case 2: return tape.length;
            case 3: return changes.done;
            case 4: return arches.kept;
            case 5: return arches.begun;
            default: return BAD;
        }
    }

    private static boolean isWithin(int v, int least, int most) {
        return v >= least && v <= most;
    }

    /** Whether ft tells two unlike PLACES. */
    private static boolean isPair(int ft) {
        return ft >= 0 && ft / 10 < PLACES && ft % 10 < PLACES && ft / 10 != ft % 10;
    }

    private static int held(int v, int most) {
        return Math.max(0, Math.min(most, v));
    }

    /** All numbers of the county, and how a day passes in it. */
    private static final class County {
        private final int[] from = new int[BRIDGES];
        private final int[] to = new int[BRIDGES];
        private final int[] span = new int[BRIDGES];
        private final int[] sound = new int[BRIDGES];
        private final int[] alms = new int[BRIDGES];
        private final int[] means = new int[BEGGARS];
        private final int[] asks = new int[BEGGARS];
        private final int[] spends = new int[BEGGARS];
        private final int[] seat = new int[BEGGARS];
        /** How many with nothing, and with more, sit on each BRIDGE: right only just behind tally(). */
        private final int[] poorOn = new int[BRIDGES];
        private final int[] richOn = new int[BRIDGES];
        private int bridges;
        private int beggars;
        private int poor = 9;
        private int today;

        boolean hasBridge(int k) {
            return k >= 0 && k < bridges && k < BRIDGES;
        }

        boolean hasBeggar(int b) {
            return b >= 0 && b < beggars && b < BEGGARS;
        }

        int addBridge(int start, int end, int feet) {
            if (bridges >= BRIDGES) {
                return FULL;
            }
            int k = bridges++;
            from[k] = start;
            to[k] = end;
            span[k] = feet;
            sound[k] = MOST;
            alms[k] = 3;
            return k;
        }

        int addBeggar(int has, int wants, int needs, int place) {
            if (beggars >= BEGGARS) {
                return FULL;
            }
            int b = beggars++;
            means[b] = has;
            asks[b] = wants;
            spends[b] = needs;
            seat[b] = place;
            return b;
        }

        /** Whether the county has such a number, of a BRIDGE, a BEGGAR or its own. */
        boolean holds(int number, int what) {
            if (what == POOR || what == DAY) {
                return number == 0;
            }
            if (what >= MEANS && what <= SITS) {
                return hasBeggar(number);
            }
            return what >= SPAN && what <= TO && hasBridge(number);
        }

        /** Whether a number of this sort may be v. */
        boolean allows(int what, int v) {
            switch (what) {
                case SPAN: return isWithin(v, 1, 9);
                case SOUND: case MEANS: case POOR: return isWithin(v, 0, MOST);
                case ALMS: case ASKS: case SPENDS: return isWithin(v, 0, 9);
                case SITS: return v == NOWHERE || hasBridge(v);
                case DAY: return isWithin(v, 0, 6);
                default: return false;
            }
        }

        private int[] numbersOf(int what) {
            switch (what) {
                case SPAN: return span;
                case SOUND: return sound;
                case ALMS: return alms;
                case MEANS: return means;
                case ASKS: return asks;
                case SPENDS: return spends;
                case SITS: return seat;
                case FROM: return from;
                case TO: return to;
                default: return null;
            }
        }

        int read(int number, int what) {
            if (what == POOR) {
                return poor;
            }
            if (what == DAY) {
                return today;
            }
            int[] numbers = numbersOf(what);
            return numbers == null || number < 0 || number >= numbers.length ? VOID : numbers[number];
        }

        void write(int number, int what, int v) {
            if (what == POOR) {
                poor = v;
            } else if (what == DAY) {
                today = v;
            } else {
                int[] numbers = numbersOf(what);
                if (numbers != null && number >= 0 && number < numbers.length) {
                    numbers[number] = v;
                }
            }
        }

        int raise(int number, int what, int v) {
            write(number, what, held(read(number, what) + v, MOST));
            return read(number, what);
        }

        void copyOf(County other) {
            System.arraycopy(other.from, 0, from, 0, BRIDGES);
            System.arraycopy(other.to, 0, to, 0, BRIDGES);
            System.arraycopy(other.span, 0, span, 0, BRIDGES);
            System.arraycopy(other.sound, 0, sound, 0, BRIDGES);
            System.arraycopy(other.alms, 0, alms, 0, BRIDGES);
            System.arraycopy(other.means, 0, means, 0, BEGGARS);
            System.arraycopy(other.asks, 0, asks, 0, BEGGARS);
            System.arraycopy(other.spends, 0, spends, 0, BEGGARS);
            System.arraycopy(other.seat, 0, seat, 0, BEGGARS);
            bridges = other.bridges;
            beggars = other.beggars;
            poor = other.poor;
            today = other.today;
        }

        void tally() {
            Arrays.fill(poorOn, 0);
            Arrays.fill(richOn, 0);
            for (int b = 0; b < beggars && b < BEGGARS; b++) {
                tallyOne(b);
            }
        }

        private void tallyOne(int b) {
            int k = seat[b];
            if (hasBridge(k)) {
                if (means[b] <= poor) {
                    poorOn[k]++;
                } else {
                    richOn[k]++;
                }
            }
        }

        void passDay(Law law) {
            passDayAt(NOWHERE, bridges, law);
        }

        /**
         * A DAY for the seats first .. end - 1 (-1: nowhere) and who sits there: no seat touches
         * another one, so a question about one BRIDGE need not go through them all.
         */
        void passDayAt(int first, int end, Law law) {
            int last = Math.min(end, Math.min(bridges, BRIDGES));
            for (int k = Math.max(first, 0); k < last; k++) {
                poorOn[k] = 0;
                richOn[k] = 0;
            }
            // MEANS ahead of SOUND: who sits on a BRIDGE that falls today still has today's ALMS
            for (int b = 0; b < beggars && b < BEGGARS; b++) {
                int k = seat[b];
                if (k >= first && k < end) {
                    tallyOne(b);
                    int gets = hasBridge(k) && sound[k] > 0 ? Math.min(alms[k], asks[b]) : 0;
                    means[b] = held(means[b] + gets - spends[b], MOST);
                }
            }
            for (int k = Math.max(first, 0); k < last; k++) {
                if (sound[k] > 0) {
                    sound[k] = Math.max(0, sound[k] - law.crackOn(this, k));
                }
            }
            today = today >= 6 ? 0 : today + 1;
        }

        int standing() {
            int bits = 0;
            for (int k = 0; k < bridges && k < BRIDGES; k++) {
                if (sound[k] > 0) {
                    bits |= 1 << k;
                }
            }
            return bits;
        }

        int soundOfAll() {
            int sum = 0;
            for (int k = 0; k < bridges && k < BRIDGES; k++) {
                sum += sound[k];
            }
            return sum;
        }

        int haveNothing() {
            int bits = 0;
            for (int b = 0; b < beggars && b < BEGGARS; b++) {
                if (means[b] <= poor) {
                    bits |= 1 << b;
                }
            }
            return bits;
        }

        /** By how much one has more than nothing. */
        int savings(int b) {
            return hasBeggar(b) ? Math.max(0, means[b] - poor) : 0;
        }

        int claimAt(int place) {
            tally();
            int sum = 0;
            for (int k = 0; k < bridges && k < BRIDGES; k++) {
                if (from[k] == place || to[k] == place) {
                    sum += 10 * poorOn[k] + richOn[k];
                }
            }
            return sum;
        }
    }

    /** THE TAPE, and its reading as a TEXT into steps for a pile of numbers. */
    private static final class Tape {
        static final int LONGEST = 120;
        /** Every byte makes one step at most, and the end one more. */
        static final int STEPS = LONGEST + 8;
        static final int NUMBER = 0, NAME = 1, END = 2, SKIP = 3, NEGATE = 4, DENY = 5;
        private static final int COMPARES = 2, LEVELS = 5, DEEPEST = 6;

        private final int[] bytes = new int[LONGEST];
        private final int[] steps = new int[STEPS];
        private final int[] values = new int[STEPS];
        private int length;
        private int size;
        private int at;
        private int fault;

        int take(int letter) {
            if (length >= LONGEST) {
                return FULL;
            }
            bytes[length++] = letter;
            return length;
        }

        void clear() {
            length = 0;
        }

        /** The FAULT; -1: there is none, and the steps are the TEXT's. */
        int compile() {
            at = 0;
            size = 0;
            fault = -1;
            line();
            for (int k = 0; k < LONGEST && fault < 0 && peek() == ';'; k++) {
                at++;
                line();
            }
            if (fault < 0 && at < length) {
                fault = at;
            }
            return fault;
        }

        private int peek() {
            return at >= 0 && at < length && at < LONGEST ? bytes[at] : -1;
        }

        private void emit(int step, int value) {
            if (size < STEPS) {
                steps[size] = step;
                values[size] = value;
                size++;
            }
        }

        private void line() {
            climb(0, 0);
            if (fault < 0 && peek() == '?') {
                at++;
                int skip = size;
                emit(SKIP, 0);
                climb(0, 0);
                emit(END, 0);
                if (skip < STEPS) {
                    values[skip] = size;
                }
            } else {
                emit(END, 0);
            }
        }

        /** The grammar's E, A, B, S, P (levels 0 to 4), O below them. */
        private void climb(int level, int open) {
            if (level >= LEVELS) {
                operand(open);
                return;
            }
            climb(level + 1, open);
            for (int k = 0; k < LONGEST && fault < 0 && levelOf(peek()) == level; k++) {
                int sign = peek();
                at++;
                climb(level + 1, open);
                emit(sign, 0);
                if (level == COMPARES) {
                    return;
                }
            }
        }

        private void operand(int open) {
            int c = peek();
            if (isDigit(c)) {
                number();
            } else if (nameOf(c) >= 0) {
                at++;
                emit(NAME, nameOf(c));
            } else if ((c == '(' || c == '!' || c == '-') && open < DEEPEST) {
                at++;
                if (c == '(') {
                    enclosed(open + 1);
                } else {
                    operand(open + 1);
                    emit(c == '!' ? DENY : NEGATE, 0);
                }
            } else {
                fault = at;
            }
        }

        private void enclosed(int open) {
            climb(0, open);
            if (fault < 0) {
                if (peek() == ')') {
                    at++;
                } else {
                    fault = at;
                }
            }
        }

        private void number() {
            int v = 0;
            for (int k = 0; k < 4 && isDigit(peek()); k++) {
                v = v * 10 + peek() - '0';
                at++;
            }
            emit(NUMBER, v);
        }

        private static boolean isDigit(int c) {
            return c >= '0' && c <= '9';
        }

        private static int nameOf(int c) {
            switch (c) {
                case 's': return Law.SPAN_NAME;
                case 'h': return Law.NOTHING_NAME;
                case 'r': return Law.MORE_NAME;
                case 'a': return Law.ALMS_NAME;
                case 'd': return Law.DAY_NAME;
                case 'x': return Law.SOUND_NAME;
                default: return -1;
            }
        }

        private static int levelOf(int c) {
            switch (c) {
                case '|': return 0;
                case '&': return 1;
                case '<': case '=': case '>': return COMPARES;
                case '+': case '-': return 3;
                case '*': case '/': case '%': return 4;
                default: return -1;
            }
        }
    }

    /** THE LAW: the steps of a TEXT, and what they give. */
    private static final class Law {
        static final int SPAN_NAME = 0, NOTHING_NAME = 1, MORE_NAME = 2, ALMS_NAME = 3, DAY_NAME = 4,
                SOUND_NAME = 5;
        private static final int NAMES = 6, MOST_CRACK = 20;

        private final int[] steps = new int[Tape.STEPS];
        private final int[] values = new int[Tape.STEPS];
        private final int[] pile = new int[Tape.STEPS];
        private final int[] named = new int[NAMES];
        private int size;

        void become(Tape tape) {
            System.arraycopy(tape.steps, 0, steps, 0, Tape.STEPS);
            System.arraycopy(tape.values, 0, values, 0, Tape.STEPS);
            size = tape.size;
        }

        /** By how much a BRIDGE cracks, by who sits there as it was tallied. */
        int crackOn(County county, int k) {
            if (!county.hasBridge(k)) {
                return 0;
            }
            if (size == 0) {
                return held(county.span[k] / 2 + 2 * county.richOn[k] - 4 * county.poorOn[k], MOST_CRACK);
            }
            named[SPAN_NAME] = county.span[k];
            named[NOTHING_NAME] = county.poorOn[k];
            named[MORE_NAME] = county.richOn[k];
            named[ALMS_NAME] = county.alms[k];
            named[DAY_NAME] = county.today;
            named[SOUND_NAME] = county.sound[k];
            return held(worth(), MOST_CRACK);
        }

        /** What the LINE that counts gives; at only grows, so no step runs twice. */
        private int worth() {
            int top = 0;
            int at = 0;
            for (int k = 0; k < Tape.STEPS && at >= 0 && at < size && at < Tape.STEPS; k++) {
                int step = steps[at];
                int value = values[at];
                at++;
                if (step == Tape.NUMBER || step == Tape.NAME) {
                    if (top >= Tape.STEPS) {
                        return 0;
                    }
                    boolean isName = step == Tape.NAME && value >= 0 && value < NAMES;
                    pile[top++] = isName ? named[value] : value;
                } else if (top <= 0) {
                    return 0;
                } else if (step == Tape.END) {
                    return pile[top - 1];
                } else if (step == Tape.SKIP) {
                    top--;
                    at = pile[top] == 0 ? value : at;
                } else if (step == Tape.NEGATE) {
                    pile[top - 1] = -pile[top - 1];
                } else if (step == Tape.DENY) {
                    pile[top - 1] = pile[top - 1] == 0 ? 1 : 0;
                } else if (top >= 2) {
                    top--;
                    pile[top - 1] = joined(step, pile[top - 1], pile[top]);
                }
            }
            return 0;
        }

        private static int joined(int sign, int a, int b) {
            switch (sign) {
                case '+': return a + b;
                case '-': return a - b;
                case '*': return a * b;
                case '/': return b == 0 ? 0 : a / b;
                case '%': return b == 0 ? 0 : a % b;
                case '<': return a < b ? 1 : 0;
                case '=': return a == b ? 1 : 0;
                case '>': return a > b ? 1 : 0;
                case '&': return a != 0 && b != 0 ? 1 : 0;
                case '|': return a != 0 || b != 0 ? 1 : 0;
                default: return 0;
            }
        }
    }

    /** Days IN THOUGHT: they pass in counties of its own, so that nothing in deed changes. */
    private static final class Thought {
        /** Above SOUND of all, so that one number weighs the BRIDGES first, then SOUND. */
        static final int A_BRIDGE = 1000;
        private static final int NO_MOVE = 900;

        private final County now;
        private final Law law;
        private final County trial = new County();
        private final County asked = new County();
        private final int[] ends = new int[BRIDGES];
        private int unmoved;
        private int bestScore;
        private int bestMove;
        private int fitting;
        private int leastFitting;

        Thought(County now, Law law) {
            this.now = now;
            this.law = law;
        }

        County behind(int n) {
            trial.copyOf(now);
            for (int d = 0; d < n; d++) {
                trial.passDay(law);
            }
            return trial;
        }

        int soundOf(County start, int bridge, int n) {
            trial.copyOf(start);
            for (int d = 0; d < n && stands(trial, bridge); d++) {
                trial.passDayAt(bridge, bridge + 1, law);
            }
            return trial.read(bridge, SOUND);
        }

        int fallOf(County start, int bridge) {
            trial.copyOf(start);
            for (int d = 0; d <= DAYS_AHEAD; d++) {
                if (!stands(trial, bridge)) {
                    return d;
                }
                trial.passDayAt(bridge, bridge + 1, law);
            }
            return NOT;
        }

        private static boolean stands(County where, int bridge) {
            return where.read(bridge, SOUND) > 0;
        }

        int firstToFall() {
            trial.copyOf(now);
            for (int d = 0; d <= DAYS_AHEAD; d++) {
                for (int k = 0; k < trial.bridges; k++) {
                    if (!stands(trial, k)) {
                        return k;
                    }
                }
                trial.passDay(law);
            }
            return NOT;
        }

        int meansOf(int beggar, int n) {
            int at = now.read(beggar, SITS);
            trial.copyOf(now);
            for (int d = 0; d < n; d++) {
                trial.passDayAt(at, at + 1, law);
            }
            return trial.read(beggar, MEANS);
        }

        int richDay(int beggar) {
            int at = now.read(beggar, SITS);
            trial.copyOf(now);
            for (int d = 0; d <= DAYS_AHEAD; d++) {
                if (trial.savings(beggar) > 0) {
                    return d;
                }
                trial.passDayAt(at, at + 1, law);
            }
            return NOT;
        }

        int fallWithout(int bridge) {
            asked.copyOf(now);
            for (int b = 0; b < asked.beggars; b++) {
                if (asked.read(b, SITS) == bridge) {
                    asked.write(b, SITS, NOWHERE);
                }
            }
            return fallOf(asked, bridge);
        }

        /** MOVED begins with none; bestScore and bestMove are the answer so far. */
        void weighStaying(int n) {
            asked.copyOf(now);
            unmoved = 0;
            for (int k = 0; k < now.bridges && k < BRIDGES; k++) {
                ends[k] = soundOf(asked, k, n);
                unmoved += score(ends[k]);
            }
            bestScore = unmoved;
            bestMove = NO_MOVE;
        }

        /** Only the two BRIDGES of a move end otherwise. */
        void weighMovesOf(int b, int n) {
            int home = now.read(b, SITS);
            int rest = unmoved;
            asked.write(b, SITS, NOWHERE);
            if (now.hasBridge(home)) {
                rest += score(soundOf(asked, home, n)) - score(ends[home]);
            }
            for (int k = 0; k < now.bridges && k < BRIDGES; k++) {
                if (k != home) {
                    asked.write(b, SITS, k);
                    prefer(rest + score(soundOf(asked, k, n)) - score(ends[k]), 100 * b + k);
                }
            }
            prefer(rest, 100 * b + BRIDGES);
            asked.write(b, SITS, home);
        }

        private void prefer(int score, int move) {
            if (score > bestScore) {
                bestScore = score;
                bestMove = move;
            }
        }

        private static int score(int sound) {
            return sound > 0 ? A_BRIDGE + sound : 0;
        }

        /** JUDGED, from a start. */
        int firstWrong(County start, int bridge, Shelves shelves, int shelf) {
            trial.copyOf(start);
            int size = shelves.sizeOf(shelf);
            for (int i = 0; i < size; i++) {
                if (shelves.at(shelf, i) != trial.read(bridge, SOUND)) {
                    return i;
                }
                trial.passDayAt(bridge, bridge + 1, law);
            }
            return NOT;
        }

        /** HAD, GIVEN: by how many numbers of a sort the BOOK of a BRIDGE is so, and by which least. */
        void tryBook(int number, int sort, int bridge, Shelves shelves, int shelf) {
            int most = sort == MEANS ? MOST : MOST_ALMS;
            // what is no matter to the BRIDGE need be tried only once
            boolean matters = sort == MEANS ? now.read(number, SITS) == bridge : number == bridge;
            boolean so = false;
            fitting = 0;
            leastFitting = NOT;
            asked.copyOf(now);
            for (int v = most; v >= 0; v--) {
                if (v == most || matters) {
                    asked.write(number, sort, v);
                    so = firstWrong(asked, bridge, shelves, shelf) == NOT;
                }
                if (so) {
                    fitting++;
                    leastFitting = v;
                }
            }
        }

        /** How many BRIDGES STAND at the ends of n counties of m days; of one BRIDGE: how often. */
        int drawnStanding(int seed, int n, int m, int luck, int bridge) {
            int first = bridge == ALL ? NOWHERE : bridge;
            int end = bridge == ALL ? now.bridges : bridge + 1;
            int stood = 0;
            int z = seed;
            for (int c = 0; c < n; c++) {
                trial.copyOf(now);
                for (int d = 0; d < m; d++) {
                    z = z * 1103515245 + 12345;
                    if ((z >>> 24) % 12 < luck && trial.beggars > 0) {
                        trial.raise((z >>> 8) % trial.beggars, MEANS, (z >>> 16) % 30);
                    }
                    trial.passDayAt(first, end, law);
                }
                int standing = trial.standing();
                stood += bridge == ALL ? Integer.bitCount(standing) : standing >> bridge & 1;
            }
            return stood;
        }
    }

    /** BY TURNS: what is sure for either elsewhere cuts off what can't come to be. */
    private static final class Turns {
        private static final int GIFT = 20;

        private final Thought thought;
        private final County table = new County();
        private int bridge;
        private int days;
        private int all;
        private int first;

        Turns(Thought thought) {
            this.thought = thought;
        }

        void begin(County now, int which, int n, int t) {
            table.copyOf(now);
            bridge = which;
            days = t;
            all = n;
            first = NOBODY;
        }

        /** SOUND behind all, with so many turns left; low is sure for the engineer elsewhere, high for the banker. */
        private int outcome(int left, int low, int high) {
            if (left <= 0) {
                return thought.soundOf(table, bridge, days);
            }
            return (all - left) % 2 == 0 ? engineer(left, low, high) : banker(left, low, high);
        }

        private int engineer(int left, int low, int high) {
            int best = outcome(left - 1, low, high);
            int chosen = NOBODY;
            for (int b = 0; b < table.beggars && best < high; b++) {
                int home = table.read(b, SITS);
                if (home != bridge) {
                    table.write(b, SITS, bridge);
                    int got = outcome(left - 1, Math.max(low, best), high);
                    table.write(b, SITS, home);
                    if (got > best) {
                        best = got;
                        chosen = b;
                    }
                }
            }
            if (left == all) {
                first = chosen;
            }
            return best;
        }

        private int banker(int left, int low, int high) {
            int best = outcome(left - 1, low, high);
            for (int b = 0; b < table.beggars && best > low; b++) {
                int had = table.read(b, MEANS);
                if (had < MOST) {
                    table.raise(b, MEANS, GIFT);
                    best = Math.min(best, outcome(left - 1, low, Math.min(high, best)));
                    table.write(b, MEANS, had);
                }
            }
            return best;
        }
    }

    /** LASTING: BRIDGES matched with BEGGARS who may sit there for ever. */
    private static final class Seats {
        private final County now;
        /** Who may sit on each BRIDGE (bits). */
        private final int[] willing = new int[BRIDGES];
        /** Which BRIDGE each BEGGAR has while most() looks; -1: none. */
        private final int[] has = new int[BEGGARS];
        private int asked;

        Seats(County now) {
            this.now = now;
        }

        /** To be called ahead of the others: who may sit where, as the county is now. */
        void ask() {
            for (int k = 0; k < now.bridges && k < BRIDGES; k++) {
                willing[k] = 0;
                for (int b = 0; b < now.beggars; b++) {
                    int gets = Math.min(now.read(b, ASKS), now.read(k, ALMS));
                    if (now.savings(b) == 0 && gets <= now.read(b, SPENDS)) {
                        willing[k] |= 1 << b;
                    }
                }
            }
        }

        /** The most BRIDGES from one on that have such a BEGGAR, without those that are used. */
        int most(int firstBridge, int used) {
            Arrays.fill(has, NOWHERE);
            int found = 0;
            for (int k = Math.max(firstBridge, 0); k < now.bridges; k++) {
                asked = used;
                if (finds(k, 0)) {
                    found++;
                }
            }
            return found;
        }

        /** Whether a BRIDGE gets one, others changing theirs if need be. */
        private boolean finds(int k, int depth) {
            if (depth > BEGGARS || k < 0 || k >= BRIDGES) {
                return false;
            }
            for (int b = 0; b < BEGGARS; b++) {
                if ((willing[k] & ~asked & 1 << b) != 0) {
                    asked |= 1 << b;
                    if (has[b] == NOWHERE || finds(has[b], depth + 1)) {
                        has[b] = k;
                        return true;
                    }
                }
            }
            return false;
        }

        int whoSitsOn(int bridge) {
            int left = most(0, 0);
            int used = 0;
            int who = NOBODY;
            for (int k = 0; k <= bridge && k < BRIDGES; k++) {
                who = firstFor(k, used, left);
                if (who != NOBODY) {
                    used |= 1 << who;
                    left--;
                }
            }
            return who;
        }

        private int firstFor(int k, int used, int left) {
            int free = k >= 0 && k < BRIDGES ? willing[k] & ~used : 0;
            for (int b = 0; b < BEGGARS; b++) {
                if ((free >> b & 1) != 0 && most(k + 1, used | 1 << b) == left - 1) {
                    return b;
                }
            }
            return NOBODY;
        }
    }

    /** Ways by BRIDGES that STAND now. */
    private static final class Ways {
        /** Above the BRIDGES of any WAY, so that one number weighs SPAN first, then how many. */
        static final int A_SPAN = 100;
        private static final int FAR = 1000000;

        private final County now;
        private final int[] cost = new int[PLACES];

        Ways(County now) {
            this.now = now;
        }

        /** SPAN by A_SPAN and how many BRIDGES; -1: there is no WAY. */
        int cheapest(int start, int end) {
            if (!isWithin(start, 0, PLACES - 1) || !isWithin(end, 0, PLACES - 1)) {
                return -1;
            }
            Arrays.fill(cost, FAR);
            cost[start] = 0;
            int standing = now.standing();
            for (int round = 1; round < PLACES; round++) {
                for (int k = 0; k < now.bridges; k++) {
                    if ((standing >> k & 1) != 0) {
                        shorten(k);
                    }
                }
            }
            return cost[end] >= FAR ? -1 : cost[end];
        }

        private void shorten(int k) {
            int one = now.read(k, FROM);
            int other = now.read(k, TO);
            int step = now.read(k, SPAN) * A_SPAN + 1;
            if (isWithin(one, 0, PLACES - 1) && isWithin(other, 0, PLACES - 1)) {
                cost[other] = Math.min(cost[other], cost[one] + step);
                cost[one] = Math.min(cost[one], cost[other] + step);
            }
        }

        private boolean isWay(int start, int end, int open) {
            int reached = 1 << start;
            for (int round = 1; round < PLACES; round++) {
                int before = reached;
                for (int k = 0; k < now.bridges; k++) {
                    int both = 1 << now.read(k, FROM) | 1 << now.read(k, TO);
                    if ((open >> k & 1) != 0 && (reached & both) != 0) {
                        reached |= both;
                    }
                }
                if (reached == before) {
                    break;
                }
            }
            return (reached >> end & 1) != 0;
        }

        /** PARTED: the fewest BRIDGES, of like ones the least bits. */
        int parting(int start, int end) {
            int standing = now.standing();
            int best = standing;
            int fewest = BRIDGES + 1;
            for (int bits = 0; bits <= standing; bits++) {
                boolean fewer = (bits & ~standing) == 0 && Integer.bitCount(bits) < fewest;
                if (fewer && !isWay(start, end, standing & ~bits)) {
                    best = bits;
                    fewest = Integer.bitCount(bits);
                }
            }
            return best;
        }

        int neededOnes() {
            int standing = now.standing();
            int bits = 0;
            for (int k = 0; k < now.bridges; k++) {
                int one = 1 << k;
                if ((standing & one) != 0 && !isWay(now.read(k, FROM), now.read(k, TO), standing & ~one)) {
                    bits |= one;
                }
            }
            return bits;
        }
    }

    /** CHANGES that may be UNDONE and DONE AGAIN. */
    private static final class Changes {
        private static final int LONGEST = 40;

        private final int[] number = new int[LONGEST];
        private final int[] sort = new int[LONGEST];
        private final int[] before = new int[LONGEST];
        private final int[] behind = new int[LONGEST];
        private int done;
        private int all;

        void add(int which, int what, int was, int becomes) {
            if (done >= LONGEST) {
                dropOldest();
            }
            number[done] = which;
            sort[done] = what;
            before[done] = was;
            behind[done] = becomes;
            done++;
            all = done;
        }

        private void dropOldest() {
            System.arraycopy(number, 1, number, 0, LONGEST - 1);
            System.arraycopy(sort, 1, sort, 0, LONGEST - 1);
            System.arraycopy(before, 1, before, 0, LONGEST - 1);
            System.arraycopy(behind, 1, behind, 0, LONGEST - 1);
            done = LONGEST - 1;
        }

        int takeBack(County county) {
            if (done <= 0 || done > LONGEST) {
                return STATE;
            }
            done--;
            county.write(number[done], sort[done], before[done]);
            return done;
        }

        int doAgain(County county) {
            if (done >= all || done < 0 || done >= LONGEST) {
                return STATE;
            }
            county.write(number[done], sort[done], behind[done]);
            done++;
            return all - done;
        }
    }

    /** What was done IN DEED, and AN IMAGE. */
    private static final class Ledger {
        private static final int SORTS = 5;

        private final int[] sums = new int[SORTS];
        private final int[] keptSums = new int[SORTS];
        private final County keptCounty = new County();
        private boolean hasImage;

        int told(int what) {
            return what >= 0 && what < SORTS ? sums[what] : BAD;
        }

        void add(int what, int v) {
            if (what >= 0 && what < SORTS) {
                sums[what] += v;
            }
        }

        void keepOf(County county) {
            keptCounty.copyOf(county);
            System.arraycopy(sums, 0, keptSums, 0, SORTS);
            hasImage = true;
        }

        /** Only what deeds change is laid back, and only of those who were there. */
        void layBack(County county) {
            for (int k = 0; k < keptCounty.bridges; k++) {
                county.write(k, SOUND, keptCounty.read(k, SOUND));
            }
            for (int b = 0; b < keptCounty.beggars; b++) {
                county.write(b, MEANS, keptCounty.read(b, MEANS));
                county.write(b, SITS, keptCounty.read(b, SITS));
            }
            county.write(0, DAY, keptCounty.read(0, DAY));
            System.arraycopy(keptSums, 0, sums, 0, SORTS);
        }
    }

    /** BODIES, their acts by KIND, and THE TRACE. */
    private static final class Arches {
        static final int KINDS = 8;
        private static final int ACTS = 4, LONGEST = 50, TRACED = 24, DEEPEST = 40;
        private static final int STANDS = 0, ASKING = 1, CRACKS = 2, TELLS = 3;
        private static final int[] ABOVE = {-1, 0, 0, 2, 1, 3, 0, 4};
        /** By KIND, the bodies of stands, asks, cracks, tells; 0: it has none of its own. */
        private static final int[] BODIES = {
            1, 10, 11, 2,
            20, 0, 0, 0,
            0, 30, 0, 0,
            0, 41, 40, 0,
            0, 0, 50, 0,
            0, 0, 0, 60,
            70, 0, 0, 0,
            0, 80, 0, 81};

        private final int[] kinds = new int[LONGEST];
        private final int[] ran = new int[TRACED];
        private int kept;
        private int begun;

        boolean has(int n) {
            return n >= 0 && n < kept && n < LONGEST;
        }

        int add(int kind) {
            if (kept >= LONGEST) {
                return FULL;
            }
            kinds[kept] = kind;
            return kept++;
        }

        int kindOf(int n) {
            return has(n) ? kinds[n] : -1;
        }

        private static int above(int kind) {
            return kind >= 0 && kind < KINDS ? ABOVE[kind] : -1;
        }

        private static int ownBody(int kind, int act) {
            return kind >= 0 && kind < KINDS && act >= 0 && act < ACTS ? BODIES[kind * ACTS + act] : 0;
        }

        boolean isUnder(int n, int kind) {
            int at = kindOf(n);
            for (int k = 0; k < KINDS && at >= 0; k++) {
                if (at == kind) {
                    return true;
                }
                at = above(at);
            }
            return false;
        }

        int begunAt(int i) {
            return i >= 0 && i < begun && i < TRACED ? ran[i] : BAD;
        }

        int perform(int n, int act, int x) {
            begun = 0;
            return has(n) && act >= STANDS && act <= TELLS ? own(n, act, x, 0) : 0;
        }

        private void note(int number) {
            if (begun >= 0 && begun < TRACED) {
                ran[begun] = number;
            }
            begun++;
        }

        private int own(int n, int act, int x, int depth) {
            return run(n, kindOf(n), act, x, depth);
        }

        /** The first body of an act from a KIND upward. */
        private int run(int n, int from, int act, int x, int depth) {
            int kind = from;
            for (int k = 0; k < KINDS && kind >= 0 && ownBody(kind, act) == 0; k++) {
                kind = above(kind);
            }
            int number = ownBody(kind, act);
            if (number == 0 || depth > DEEPEST) {
                return 0;
            }
            note(number);
            int d = depth + 1;
            int up = above(kind);
            switch (number) {
                case 1: return x + n;
                case 2: return own(n, ASKING, x, d) - own(n, CRACKS, 1, d);
                case 10: return own(n, STANDS, x, d) * 2;
                case 11: return x ^ n;
                case 20: return run(n, up, act, x, d) + 3;
                case 30: return -run(n, up, act, x, d);
                case 40: return run(n, up, act, x, d) * 3;
                case 41: return run(n, up, act, x + 1, d);
                case 50: return run(n, up, act, x, d) - own(n, STANDS, 2, d);
                case 60: return run(n, up, act, x, d) ^ 5;
                case 70: return run(n, up, act, x, d) * 2;
                case 80: return run(n, up, act, x, d) + own(n, CRACKS, 2, d);
                case 81: return run(n, up, act, x, d) - 1;
                default: return 0;
            }
        }
    }

    /** SHELVES, with the room of every ROW made once. */
    private static final class Shelves {
        static final int LONGEST = 60, BYTES = 0, SHORTS = 1, INTS = 2, LONGS = 3, BOOLEANS = 4;
        private static final int SHELVES = 6, EMPTY = -1, ARCH = 5;

        private final int[] holds = {EMPTY, EMPTY, EMPTY, EMPTY, EMPTY, EMPTY};
        /** A ROW's size, or an ARCH's number. */
        private final int[] size = new int[SHELVES];
        private final long[][] rows = new long[SHELVES][LONGEST];

        boolean has(int shelf) {
            return shelf >= 0 && shelf < SHELVES;
        }

        boolean isEmpty(int shelf) {
            return !has(shelf) || holds[shelf] == EMPTY;
        }

        private boolean isRow(int shelf) {
            return has(shelf) && holds[shelf] >= BYTES && holds[shelf] <= BOOLEANS;
        }

        int sizeOf(int shelf) {
            return isRow(shelf) ? size[shelf] : 0;
        }

        /** The number of the ARCH on a SHELF; -1: there is none. */
        int archOn(int shelf) {
            return has(shelf) && holds[shelf] == ARCH ? size[shelf] : -1;
        }

        void empty(int shelf) {
            if (has(shelf)) {
                holds[shelf] = EMPTY;
            }
        }

        void holdArch(int shelf, int number) {
            if (has(shelf)) {
                holds[shelf] = ARCH;
                size[shelf] = number;
            }
        }

        void holdRow(int shelf, int sort, int n) {
            if (has(shelf) && n >= 0 && n <= LONGEST) {
                holds[shelf] = sort;
                size[shelf] = n;
                Arrays.fill(rows[shelf], 0L);
            }
        }

        private int refusalOfRow(int shelf) {
            if (!has(shelf)) {
                return BAD;
            }
            if (isEmpty(shelf)) {
                return MISSING;
            }
            return isRow(shelf) ? FINE : OTHER_KIND;
        }

        int refusalOfBytes(int shelf) {
            int refusal = refusalOfRow(shelf);
            return refusal == FINE && holds[shelf] != BYTES ? OTHER_KIND : refusal;
        }

        int refusalOfPlace(int shelf, int i) {
            int refusal = refusalOfRow(shelf);
            return refusal == FINE && (i < 0 || i >= sizeOf(shelf)) ? NO_PLACE : refusal;
        }

        /** Of two ROWS of one sort; what is missing on either comes ahead of what is of another kind. */
        int refusalOfPair(int shelf, int other) {
            if (!has(shelf) || !has(other)) {
                return BAD;
            }
            if (isEmpty(shelf) || isEmpty(other)) {
                return MISSING;
            }
            return isRow(shelf) && holds[shelf] == holds[other] ? FINE : OTHER_KIND;
        }

        boolean hasRun(int shelf, int i, int n) {
            return isRow(shelf) && i >= 0 && n >= 0 && i <= sizeOf(shelf) && n <= sizeOf(shelf) - i;
        }

        long at(int shelf, int i) {
            return i >= 0 && i < sizeOf(shelf) && i < LONGEST ? rows[shelf][i] : 0L;
        }

        void set(int shelf, int i, long v) {
            if (i >= 0 && i < sizeOf(shelf) && i < LONGEST) {
                rows[shelf][i] = cut(holds[shelf], v);
            }
        }

        private static long cut(int sort, long v) {
            switch (sort) {
                case BYTES: return (byte) v;
                case SHORTS: return (short) v;
                case INTS: return (int) v;
                case BOOLEANS: return v != 0L ? 1L : 0L;
                default: return v;
            }
        }

        void copyRun(int shelf, int i, int other, int j, int n) {
            if (hasRun(shelf, i, n) && hasRun(other, j, n)) {
                System.arraycopy(rows[shelf], i, rows[other], j, n);
            }
        }
    }
}

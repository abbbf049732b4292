import java.util.ArrayList;
import java.util.Arrays;
import java.util.List;

/**
 * The document again, written apart from the class and as slow and plain as it may be:
 * whole counties are copied, every choice is tried, the law is read anew from its text each time.
 */
final class Oracle {
    static final int BAD = -1, NOT = -2, FULL = -3, STATE = -5, VOID = -2000000000;

    static final class Bridge {
        int from, to, span, sound = 99, alms = 3;

        Bridge copy() {
            Bridge b = new Bridge();
            b.from = from;
            b.to = to;
            b.span = span;
            b.sound = sound;
            b.alms = alms;
            return b;
        }
    }

    static final class Beggar {
        int means, asks, spends, sits = -1;

        Beggar copy() {
            Beggar b = new Beggar();
            b.means = means;
            b.asks = asks;
            b.spends = spends;
            b.sits = sits;
            return b;
        }
    }

    static final class World {
        List<Bridge> bridges = new ArrayList<>();
        List<Beggar> beggars = new ArrayList<>();
        int poor = 9, day;

        World copy() {
            World w = new World();
            bridges.forEach(b -> w.bridges.add(b.copy()));
            beggars.forEach(b -> w.beggars.add(b.copy()));
            w.poor = poor;
            w.day = day;
            return w;
        }

        int crack(int k, String law) {
            int h = 0;
            int r = 0;
            for (Beggar b : beggars) {
                if (b.sits == k) {
                    if (b.means > poor) {
                        r++;
                    } else {
                        h++;
                    }
                }
            }
            Bridge b = bridges.get(k);
            int v = law == null ? b.span / 2 + 2 * r - 4 * h
                    : new Reading(law, b.span, h, r, b.alms, day, b.sound).text();
            return v < 0 ? 0 : v > 20 ? 20 : v;
        }

        World next(String law) {
            World w = copy();
            for (int k = 0; k < bridges.size(); k++) {
                Bridge old = bridges.get(k);
                if (old.sound > 0) {
                    w.bridges.get(k).sound = Math.max(0, old.sound - crack(k, law));
                }
            }
            for (int i = 0; i < beggars.size(); i++) {
                Beggar old = beggars.get(i);
                int v = old.means - old.spends;
                if (old.sits >= 0 && bridges.get(old.sits).sound > 0) {
                    v += Math.min(bridges.get(old.sits).alms, old.asks);
                }
                w.beggars.get(i).means = Math.min(99, Math.max(0, v));
            }
            w.day = (day + 1) % 7;
            return w;
        }

        World after(int n, String law) {
            World w = this;
            for (int i = 0; i < n; i++) {
                w = w.next(law);
            }
            return w;
        }

        int standingBits() {
            int bits = 0;
            for (int k = 0; k < bridges.size(); k++) {
                bits += bridges.get(k).sound > 0 ? 1 << k : 0;
            }
            return bits;
        }

        int allSound() {
            return bridges.stream().mapToInt(b -> b.sound).sum();
        }
    }

    /** Works a text out while reading it; the text has no fault. */
    static final class Reading {
        final String t;
        final int s, h, r, a, d, x;
        int at;

        Reading(String t, int s, int h, int r, int a, int d, int x) {
            this.t = t;
            this.s = s;
            this.h = h;
            this.r = r;
            this.a = a;
            this.d = d;
            this.x = x;
        }

        boolean is(char c) {
            return at < t.length() && t.charAt(at) == c;
        }

        boolean eat(char c) {
            if (is(c)) {
                at++;
                return true;
            }
            return false;
        }

        int text() {
            for (String line : t.split(";")) {
                Reading whole = new Reading(line, s, h, r, a, d, x);
                int first = whole.e();
                if (!whole.eat('?')) {
                    return first;
                }
                int second = whole.e();
                if (first != 0) {
                    return second;
                }
            }
            return 0;
        }

        int e() {
            int v = and();
            while (eat('|')) {
                int w = and();
                v = v != 0 | w != 0 ? 1 : 0;
            }
            return v;
        }

        int and() {
            int v = b();
            while (eat('&')) {
                int w = b();
                v = v != 0 & w != 0 ? 1 : 0;
            }
            return v;
        }

        int b() {
            int v = sum();
            if (eat('<')) {
                return v < sum() ? 1 : 0;
            }
            if (eat('=')) {
                return v == sum() ? 1 : 0;
            }
            if (eat('>')) {
                return v > sum() ? 1 : 0;
            }
            return v;
        }

        int sum() {
            int v = product();
            while (true) {
                if (eat('+')) {
                    v += product();
                } else if (eat('-')) {
                    v -= product();
                } else {
                    return v;
                }
            }
        }

        int product() {
            int v = o();
            while (true) {
                if (eat('*')) {
                    v *= o();
                } else if (eat('/')) {
                    int w = o();
                    v = w == 0 ? 0 : v / w;
                } else if (eat('%')) {
                    int w = o();
                    v = w == 0 ? 0 : v % w;
                } else {
                    return v;
                }
            }
        }

        int o() {
            if (eat('(')) {
                int v = e();
                eat(')');
                return v;
            }
            if (eat('!')) {
                return o() == 0 ? 1 : 0;
            }
            if (eat('-')) {
                return -o();
            }
            char c = t.charAt(at++);
            if (c >= '0' && c <= '9') {
                int v = c - '0';
                while (at < t.length() && Character.isDigit(t.charAt(at))) {
                    v = v * 10 + t.charAt(at++) - '0';
                }
                return v;
            }
            return new int[] {s, h, r, a, d, x}["shradx".indexOf(c)];
        }
    }

    /**
     * The FAULT of a text, -1 without one, by a machine of states without recursion: what is open is a
     * list of signs, each ( with whether its E has a comparison since the last | or &.
     */
    static int fault(String t) {
        List<Character> open = new ArrayList<>();
        List<Boolean> compared = new ArrayList<>(List.of(false));
        boolean wants = true;
        boolean asked = false;
        int digits = 0;
        for (int i = 0; i < t.length(); i++) {
            char c = t.charAt(i);
            int top = compared.size() - 1;
            if (wants) {
                if (c == '(' || c == '!' || c == '-') {
                    if (open.size() == 6) {
                        return i;
                    }
                    open.add(c);
                    if (c == '(') {
                        compared.add(false);
                    }
                } else if ("shradx0123456789".indexOf(c) >= 0) {
                    digits = Character.isDigit(c) ? 1 : 0;
                    wants = false;
                    closeSigns(open);
                } else {
                    return i;
                }
            } else if (digits > 0 && digits < 4 && c >= '0' && c <= '9') {
                digits++;
            } else {
                digits = 0;
                if ("+-*/%".indexOf(c) >= 0) {
                    wants = true;
                } else if ("|&".indexOf(c) >= 0) {
                    wants = true;
                    compared.set(top, false);
                } else if ("<=>".indexOf(c) >= 0 && !compared.get(top)) {
                    wants = true;
                    compared.set(top, true);
                } else if (c == ')' && top > 0) {
                    compared.remove(top);
                    open.remove(open.size() - 1);
                    closeSigns(open);
                } else if (c == '?' && top == 0 && !asked) {
                    asked = true;
                    wants = true;
                    compared.set(0, false);
                } else if (c == ';' && top == 0) {
                    asked = false;
                    wants = true;
                    compared.set(0, false);
                } else {
                    return i;
                }
            }
        }
        return wants || compared.size() > 1 ? t.length() : -1;
    }

    private static void closeSigns(List<Character> open) {
        while (!open.isEmpty() && open.get(open.size() - 1) != '(') {
            open.remove(open.size() - 1);
        }
    }

    World now = new World();
    String law = null;
    final StringBuilder tape = new StringBuilder();
    final List<int[]> undoable = new ArrayList<>();
    final List<int[]> redoable = new ArrayList<>();
    int[] led = new int[5];
    int[] ledKept;
    World kept;
    final List<Integer> kinds = new ArrayList<>();
    List<Integer> ran = new ArrayList<>();
    /** null, an Integer (an ARCH's number), or an array. */
    final Object[] shelves = new Object[6];

    boolean bridgeThere(int k) {
        return k >= 0 && k < now.bridges.size();
    }

    boolean beggarThere(int b) {
        return b >= 0 && b < now.beggars.size();
    }

    static boolean in(int v, int lo, int hi) {
        return lo <= v && v <= hi;
    }

    static boolean pair(int ft) {
        String digits = ft < 0 || ft > 99 ? "88" : String.format("%02d", ft);
        return digits.matches("[0-7][0-7]") && digits.charAt(0) != digits.charAt(1);
    }

    int bridge(int ft, int span) {
        if (!pair(ft) || !in(span, 1, 9)) {
            return BAD;
        }
        if (now.bridges.size() == 8) {
            return FULL;
        }
        Bridge b = new Bridge();
        b.from = ft / 10;
        b.to = ft % 10;
        b.span = span;
        now.bridges.add(b);
        return now.bridges.size() - 1;
    }

    int beggar(int asks, int spends) {
        if (!in(asks, 0, 9) || !in(spends, 0, 9)) {
            return BAD;
        }
        if (now.beggars.size() == 9) {
            return FULL;
        }
        Beggar b = new Beggar();
        b.asks = asks;
        b.spends = spends;
        now.beggars.add(b);
        return now.beggars.size() - 1;
    }

    int beggars(int shelf, int i, int n) {
        if (!in(shelf, 0, 5) || !in(n, 1, 9)) {
            return BAD;
        }
        if (shelves[shelf] == null) {
            return 0;
        }
        if (!(shelves[shelf] instanceof byte[])) {
            return -12;
        }
        byte[] row = (byte[]) shelves[shelf];
        int came = 0;
        for (int k = 0; k < n; k++) {
            long first = i + 4L * k;
            if (first < 0 || first + 3 >= row.length || now.beggars.size() == 9) {
                break;
            }
            Beggar b = new Beggar();
            b.means = row[(int) first];
            b.asks = row[(int) first + 1];
            b.spends = row[(int) first + 2];
            b.sits = row[(int) first + 3];
            if (!in(b.means, 0, 99) || !in(b.asks, 0, 9) || !in(b.spends, 0, 9)
                    || !in(b.sits, -1, now.bridges.size() - 1)) {
                break;
            }
            now.beggars.add(b);
            came++;
        }
        return came;
    }

    private void set(int number, int what, int v) {
        switch (what) {
            case 0: now.bridges.get(number).span = v; break;
            case 1: now.bridges.get(number).sound = v; break;
            case 2: now.bridges.get(number).alms = v; break;
            case 3: now.beggars.get(number).means = v; break;
            case 4: now.beggars.get(number).asks = v; break;
            case 5: now.beggars.get(number).spends = v; break;
            case 6: now.beggars.get(number).sits = v; break;
            case 7: now.poor = v; break;
            default: now.day = v; break;
        }
    }

    int mend(int number, int what, int v) {
        int was = what > 8 ? VOID : of(number, what);
        int[] least = {1, 0, 0, 0, 0, 0, -1, 0, 0};
        int[] most = {9, 99, 9, 99, 9, 9, now.bridges.size() - 1, 99, 6};
        if (was == VOID || !in(v, least[what], most[what])) {
            return VOID;
        }
        if (was != v) {
            redoable.clear();
            undoable.add(new int[] {number, what, was, v});
            if (undoable.size() > 40) {
                undoable.remove(0);
            }
            set(number, what, v);
        }
        return was;
    }

    int of(int number, int what) {
        if (what == 7 || what == 8) {
            return number != 0 ? VOID : what == 7 ? now.poor : now.day;
        }
        if (in(what, 3, 6)) {
            if (!beggarThere(number)) {
                return VOID;
            }
            Beggar b = now.beggars.get(number);
            return new int[] {b.means, b.asks, b.spends, b.sits}[what - 3];
        }
        if (!bridgeThere(number) || !in(what, 0, 10)) {
            return VOID;
        }
        Bridge b = now.bridges.get(number);
        return what == 0 ? b.span : what == 1 ? b.sound : what == 2 ? b.alms : what == 9 ? b.from : b.to;
    }

    int feed(int letter) {
        if (!in(letter, 0, 255)) {
            return BAD;
        }
        if (tape.length() == 120) {
            return FULL;
        }
        tape.append((char) letter);
        return tape.length();
    }

    int law() {
        String t = tape.toString();
        tape.setLength(0);
        int f = fault(t);
        if (f >= 0) {
            return -100 - f;
        }
        law = t;
        return 1;
    }

    int cracks(int k) {
        return bridgeThere(k) ? now.crack(k, law) : BAD;
    }

    int later(int n, int number, int what) {
        if (!in(n, 0, 60) || !in(what, 0, 1) || (what == 0 ? !bridgeThere(number) : !beggarThere(number))) {
            return BAD;
        }
        World w = now.after(n, law);
        return what == 0 ? w.bridges.get(number).sound : w.beggars.get(number).means;
    }

    int county(int n, int what) {
        if (!in(n, 0, 60) || !in(what, 0, 2)) {
            return BAD;
        }
        World w = now.after(n, law);
        if (what == 2) {
            int bits = 0;
            for (int b = 0; b < w.beggars.size(); b++) {
                bits |= w.beggars.get(b).means <= w.poor ? 1 << b : 0;
            }
            return bits;
        }
        return what == 0 ? w.standingBits() : w.allSound();
    }

    private int fallsIn(World start, int k) {
        World w = start;
        for (int n = 0; n <= 60; n++, w = w.next(law)) {
            if (w.bridges.get(k).sound == 0) {
                return n;
            }
        }
        return NOT;
    }

    int falls(int k) {
        if (k != -1) {
            return bridgeThere(k) ? fallsIn(now, k) : BAD;
        }
        int best = NOT;
        int when = 61;
        for (int i = 0; i < now.bridges.size(); i++) {
            int f = fallsIn(now, i);
            if (f != NOT && f < when) {
                when = f;
                best = i;
            }
        }
        return best;
    }

    int rich(int b) {
        if (!beggarThere(b)) {
            return BAD;
        }
        for (int n = 0; n <= 60; n++) {
            if (now.after(n, law).beggars.get(b).means > now.poor) {
                return n;
            }
        }
        return NOT;
    }

    int without(int k) {
        if (!bridgeThere(k)) {
            return BAD;
        }
        World w = now.copy();
        for (Beggar b : w.beggars) {
            b.sits = b.sits == k ? -1 : b.sits;
        }
        return fallsIn(w, k);
    }

    int moved(int n, int what) {
        if (!in(n, 0, 20) || !in(what, 0, 2)) {
            return BAD;
        }
        int bestCount = -1;
        int bestSound = -1;
        int bestWhich = 900;
        for (int b = -1; b < now.beggars.size(); b++) {
            for (int k = 0; k <= 8; k++) {
                if (b == -1 && k > 0 || k < 8 && k >= now.bridges.size() && b >= 0) {
                    continue;
                }
                World w = now.copy();
                if (b >= 0) {
                    w.beggars.get(b).sits = k == 8 ? -1 : k;
                }
                w = w.after(n, law);
                int c = Integer.bitCount(w.standingBits());
                int s = w.allSound();
                if (c > bestCount || c == bestCount && s > bestSound) {
                    bestCount = c;
                    bestSound = s;
                    bestWhich = b < 0 ? 900 : 100 * b + k;
                }
            }
        }
        return what == 0 ? bestCount : what == 1 ? bestSound : bestWhich;
    }

    private int bestSeated;
    private int[] bestSeats;

    private void seat(int k, int[] who, int used, int seated) {
        if (seated + now.bridges.size() - k <= bestSeated) {
            return;
        }
        if (k == now.bridges.size()) {
            bestSeated = seated;
            bestSeats = who.clone();
            return;
        }
        for (int b = 0; b < now.beggars.size(); b++) {
            Beggar g = now.beggars.get(b);
            boolean may = g.means <= now.poor && Math.min(g.asks, now.bridges.get(k).alms) <= g.spends;
            if (may && (used >> b & 1) == 0) {
                who[k] = b;
                seat(k + 1, who, used | 1 << b, seated + 1);
            }
        }
        who[k] = 9;
        seat(k + 1, who, used, seated);
    }

    int lasting(int k) {
        if (k != -1 && !bridgeThere(k)) {
            return BAD;
        }
        bestSeated = -1;
        seat(0, new int[8], 0, 0);
        return k == -1 ? bestSeated : bestSeats[k];
    }

    private int bestSpan;
    private int bestBridges;

    private void walk(int at, int to, int visited, int span, int bridges, int open) {
        if (at == to) {
            if (span < bestSpan || span == bestSpan && bridges < bestBridges) {
                bestSpan = span;
                bestBridges = bridges;
            }
            return;
        }
        for (int k = 0; k < now.bridges.size(); k++) {
            Bridge b = now.bridges.get(k);
            if ((open >> k & 1) == 1 && (b.from == at || b.to == at)) {
                int next = b.from == at ? b.to : b.from;
                if ((visited >> next & 1) == 0) {
                    walk(next, to, visited | 1 << next, span + b.span, bridges + 1, open);
                }
            }
        }
    }

    private boolean wayBy(int from, int to, int open) {
        bestSpan = Integer.MAX_VALUE;
        bestBridges = 0;
        walk(from, to, 1 << from, 0, 0, open);
        return bestSpan < Integer.MAX_VALUE;
    }

    int way(int ft, int what) {
        if (!pair(ft) || !in(what, 0, 3)) {
            return BAD;
        }
        int open = now.standingBits();
        if (what < 2) {
            return !wayBy(ft / 10, ft % 10, open) ? NOT : what == 0 ? bestSpan : bestBridges;
        }
        for (int size = 0; size <= 8; size++) {
            for (int bits = 0; bits < 256; bits++) {
                if (Integer.bitCount(bits) == size && (bits & open) == bits
                        && !wayBy(ft / 10, ft % 10, open - bits)) {
                    return what == 2 ? size : bits;
                }
            }
        }
        throw new IllegalStateException();
    }

    int needed() {
        int open = now.standingBits();
        int bits = 0;
        for (int k = 0; k < now.bridges.size(); k++) {
            Bridge b = now.bridges.get(k);
            if (b.sound > 0 && !wayBy(b.from, b.to, open - (1 << k))) {
                bits += 1 << k;
            }
        }
        return bits;
    }

    private int wrongAt(World start, int k, byte[] book) {
        World w = start;
        for (int i = 0; i < book.length; i++, w = w.next(law)) {
            if (book[i] != w.bridges.get(k).sound) {
                return i;
            }
        }
        return NOT;
    }

    private int bookRefusal(int shelf) {
        return shelves[shelf] == null ? -11 : shelves[shelf] instanceof byte[] ? 0 : -12;
    }

    int judge(int shelf, int k) {
        if (!in(shelf, 0, 5) || !bridgeThere(k)) {
            return BAD;
        }
        return bookRefusal(shelf) != 0 ? bookRefusal(shelf) : wrongAt(now, k, (byte[]) shelves[shelf]);
    }

    int fits(int shelf, int k, int number, int what) {
        if (!in(shelf, 0, 5) || !bridgeThere(k) || !in(what, 0, 3)
                || (what < 2 ? !beggarThere(number) : !bridgeThere(number))) {
            return BAD;
        }
        if (bookRefusal(shelf) != 0) {
            return bookRefusal(shelf);
        }
        List<Integer> good = new ArrayList<>();
        for (int v = 0; v <= (what < 2 ? 99 : 9); v++) {
            World w = now.copy();
            if (what < 2) {
                w.beggars.get(number).means = v;
            } else {
                w.bridges.get(number).alms = v;
            }
            if (wrongAt(w, k, (byte[]) shelves[shelf]) == NOT) {
                good.add(v);
            }
        }
        return what % 2 == 0 ? good.size() : good.isEmpty() ? NOT : good.get(0);
    }

    int fined(int b, int v) {
        if (!beggarThere(b) || !in(v, 0, 9999)) {
            return BAD;
        }
        int all = 0;
        for (Beggar g : now.beggars) {
            all += g.means > now.poor ? g.means - now.poor : 0;
        }
        int own = now.beggars.get(b).means - now.poor;
        return own <= 0 ? 0 : v * own / all;
    }

    int claim(int place) {
        if (!in(place, 0, 7)) {
            return BAD;
        }
        int sum = 0;
        for (Beggar g : now.beggars) {
            if (g.sits >= 0) {
                Bridge b = now.bridges.get(g.sits);
                sum += b.from != place && b.to != place ? 0 : g.means <= now.poor ? 10 : 1;
            }
        }
        return sum;
    }

    private int turn(World w, int k, int moves, int t, boolean engineer, int[] first) {
        if (moves == 0) {
            return w.after(t, law).bridges.get(k).sound;
        }
        int best = turn(w, k, moves - 1, t, !engineer, null);
        int chosen = 9;
        for (int b = 0; b < w.beggars.size(); b++) {
            World v = w.copy();
            if (engineer) {
                v.beggars.get(b).sits = k;
            } else {
                v.beggars.get(b).means = Math.min(99, v.beggars.get(b).means + 20);
            }
            int got = turn(v, k, moves - 1, t, !engineer, null);
            if (engineer ? got > best : got < best) {
                best = got;
                chosen = b;
            }
        }
        if (first != null) {
            first[0] = chosen;
        }
        return best;
    }

    int byTurns(int k, int nt, int what) {
        if (!bridgeThere(k) || nt < 0 || !in(nt / 100, 1, 3) || !in(nt % 100, 0, 20) || !in(what, 0, 1)) {
            return BAD;
        }
        int[] first = new int[1];
        int sound = turn(now, k, nt / 100, nt % 100, true, first);
        return what == 0 ? sound : first[0];
    }

    int drawn(int seed, int nml, int k) {
        if (nml < 0 || !in(nml / 10000, 1, 30) || !in(nml / 100 % 100, 1, 60) || !in(nml % 100, 0, 12)
                || k != -1 && !bridgeThere(k)) {
            return BAD;
        }
        int z = seed;
        int sum = 0;
        for (int c = 0; c < nml / 10000; c++) {
            World w = now.copy();
            for (int d = 0; d < nml / 100 % 100; d++) {
                z = z * 1103515245 + 12345;
                if (!w.beggars.isEmpty() && (z >>> 24) % 12 < nml % 100) {
                    Beggar b = w.beggars.get((z >>> 8) % w.beggars.size());
                    b.means = Math.min(99, b.means + (z >>> 16) % 30);
                }
                w = w.next(law);
            }
            sum += k == -1 ? Integer.bitCount(w.standingBits()) : w.bridges.get(k).sound > 0 ? 1 : 0;
        }
        return sum;
    }

    int day() {
        World then = now.next(law);
        led[0]++;
        led[4] += Integer.bitCount(now.standingBits()) - Integer.bitCount(then.standingBits());
        now = then;
        return Integer.bitCount(now.standingBits());
    }

    int sits(int b, int k) {
        if (!beggarThere(b) || k != -1 && !bridgeThere(k)) {
            return VOID;
        }
        int was = now.beggars.get(b).sits;
        now.beggars.get(b).sits = k;
        led[1]++;
        return was;
    }

    int given(int b, int v) {
        if (!beggarThere(b) || !in(v, 1, 99)) {
            return BAD;
        }
        led[2] += v;
        return now.beggars.get(b).means = Math.min(99, now.beggars.get(b).means + v);
    }

    int repair(int k, int v) {
        if (!bridgeThere(k) || !in(v, 1, 99)) {
            return BAD;
        }
        led[3] += v;
        return now.bridges.get(k).sound = Math.min(99, now.bridges.get(k).sound + v);
    }

    int led(int what) {
        return in(what, 0, 4) ? led[what] : BAD;
    }

    int image() {
        kept = now.copy();
        ledKept = led.clone();
        return led[0];
    }

    int back() {
        if (kept == null) {
            return STATE;
        }
        for (int k = 0; k < kept.bridges.size(); k++) {
            now.bridges.get(k).sound = kept.bridges.get(k).sound;
        }
        for (int b = 0; b < kept.beggars.size(); b++) {
            now.beggars.get(b).means = kept.beggars.get(b).means;
            now.beggars.get(b).sits = kept.beggars.get(b).sits;
        }
        now.day = kept.day;
        led = ledKept.clone();
        return led[0];
    }

    int undo() {
        if (undoable.isEmpty()) {
            return STATE;
        }
        int[] c = undoable.remove(undoable.size() - 1);
        redoable.add(c);
        set(c[0], c[1], c[2]);
        return undoable.size();
    }

    int redo() {
        if (redoable.isEmpty()) {
            return STATE;
        }
        int[] c = redoable.remove(redoable.size() - 1);
        undoable.add(c);
        set(c[0], c[1], c[3]);
        return redoable.size();
    }

    /** The KINDS as Java's own classes, so that Java itself chooses the bodies. */
    interface Stands {
        List<Integer> ran();

        int n();

        default int stands(int x) {
            ran().add(1);
            return x + n();
        }
    }

    interface Tells {
        List<Integer> ran();

        int asks(int x);

        int cracks(int x);

        default int tells(int x) {
            ran().add(2);
            return asks(x) - cracks(1);
        }
    }

    static class Arch implements Stands, Tells {
        int n;
        List<Integer> ran = new ArrayList<>();

        public List<Integer> ran() {
            return ran;
        }

        public int n() {
            return n;
        }

        public int asks(int x) {
            ran.add(10);
            return stands(x) * 2;
        }

        public int cracks(int x) {
            ran.add(11);
            return x ^ n;
        }
    }

    static class Span extends Arch {
        public int stands(int x) {
            ran.add(20);
            return super.stands(x) + 3;
        }
    }

    static class Alms extends Arch {
        public int asks(int x) {
            ran.add(30);
            return -super.asks(x);
        }
    }

    static class Coin extends Alms {
        public int cracks(int x) {
            ran.add(40);
            return super.cracks(x) * 3;
        }

        public int asks(int x) {
            ran.add(41);
            return super.asks(x + 1);
        }
    }

    static class Deed extends Span {
        public int cracks(int x) {
            ran.add(50);
            return super.cracks(x) - stands(2);
        }
    }

    static class Bride extends Coin {
        public int tells(int x) {
            ran.add(60);
            return super.tells(x) ^ 5;
        }
    }

    static class Cart extends Arch {
        public int stands(int x) {
            ran.add(70);
            return super.stands(x) * 2;
        }
    }

    static class Iron extends Deed {
        public int asks(int x) {
            ran.add(80);
            return super.asks(x) + cracks(2);
        }

        public int tells(int x) {
            ran.add(81);
            return super.tells(x) - 1;
        }
    }

    private static Arch made(int kind) {
        switch (kind) {
            case 0: return new Arch();
            case 1: return new Span();
            case 2: return new Alms();
            case 3: return new Coin();
            case 4: return new Deed();
            case 5: return new Bride();
            case 6: return new Cart();
            default: return new Iron();
        }
    }

    int body(int kind) {
        if (!in(kind, 0, 7)) {
            return BAD;
        }
        if (kinds.size() == 50) {
            return FULL;
        }
        kinds.add(kind);
        return kinds.size() - 1;
    }

    int act(int body, int act, int x) {
        ran = new ArrayList<>();
        if (!in(body, 0, kinds.size() - 1) || !in(act, 0, 3)) {
            return 0;
        }
        Arch a = made(kinds.get(body));
        a.n = body;
        ran = a.ran;
        return act == 0 ? a.stands(x) : act == 1 ? a.asks(x) : act == 2 ? a.cracks(x) : a.tells(x);
    }

    int trace(int i) {
        return in(i, 0, Math.min(24, ran.size()) - 1) ? ran.get(i) : BAD;
    }

    int keep(int shelf, int body) {
        if (!in(shelf, 0, 5) || !in(body, -1, kinds.size() - 1)) {
            return BAD;
        }
        shelves[shelf] = body == -1 ? null : Integer.valueOf(body);
        return 1;
    }

    int row(int shelf, int sort, int n) {
        if (!in(shelf, 0, 5) || !in(sort, 0, 4) || n > 60) {
            return BAD;
        }
        if (n < 0) {
            return -14;
        }
        shelves[shelf] = sort == 0 ? new byte[n] : sort == 1 ? new short[n] : sort == 2 ? new int[n]
                : sort == 3 ? new long[n] : new boolean[n];
        return 1;
    }

    private static int lengthOf(Object row) {
        return row instanceof Integer ? -1 : java.lang.reflect.Array.getLength(row);
    }

    int put(int shelf, int i, long v) {
        int refusal = placeRefusal(shelf, i);
        if (refusal != 0) {
            return refusal;
        }
        Object row = shelves[shelf];
        if (row instanceof byte[]) {
            ((byte[]) row)[i] = (byte) v;
        } else if (row instanceof short[]) {
            ((short[]) row)[i] = (short) v;
        } else if (row instanceof int[]) {
            ((int[]) row)[i] = (int) v;
        } else if (row instanceof long[]) {
            ((long[]) row)[i] = v;
        } else {
            ((boolean[]) row)[i] = v != 0;
        }
        return 1;
    }

    private int placeRefusal(int shelf, int i) {
        if (!in(shelf, 0, 5)) {
            return BAD;
        }
        Object row = shelves[shelf];
        return row == null ? -11 : row instanceof Integer ? -12 : !in(i, 0, lengthOf(row) - 1) ? -13 : 0;
    }

    long element(int shelf, int i) {
        if (placeRefusal(shelf, i) != 0) {
            return Long.MIN_VALUE;
        }
        Object row = shelves[shelf];
        if (row instanceof boolean[]) {
            return ((boolean[]) row)[i] ? 1 : 0;
        }
        return java.lang.reflect.Array.getLong(row, i);
    }

    /** As System.arraycopy refuses, what it throws told as a number. */
    int shift(int shelf, int i, int other, int j, int n) {
        if (!in(shelf, 0, 5) || !in(other, 0, 5)) {
            return BAD;
        }
        try {
            System.arraycopy(shelves[shelf], i, shelves[other], j, n);
        } catch (NullPointerException e) {
            return -11;
        } catch (ArrayStoreException e) {
            return -12;
        } catch (IndexOutOfBoundsException e) {
            return -13;
        }
        return n;
    }

    int taken(int shelf, int k) {
        if (!in(shelf, 0, 5) || !in(k, 0, 7)) {
            return BAD;
        }
        if (shelves[shelf] == null) {
            return -11;
        }
        if (!(shelves[shelf] instanceof Integer)) {
            return -12;
        }
        int kind = kinds.get((Integer) shelves[shelf]);
        return made(k).getClass().isInstance(made(kind)) ? kind : -12;
    }

    int count(int what) {
        List<Integer> counts = Arrays.asList(now.bridges.size(), now.beggars.size(), tape.length(),
                undoable.size(), kinds.size(), ran.size());
        return in(what, 0, 5) ? counts.get(what) : BAD;
    }
}

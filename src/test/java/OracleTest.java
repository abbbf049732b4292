import java.lang.reflect.Method;
import java.util.ArrayList;
import java.util.List;
import java.util.Random;

/** Runs of drawn calls on the class and on Oracle: every answer must be the same. */
public final class OracleTest {
    private static final int RUNS = 400, CALLS = 512;
    private static final int[] EDGES = {Integer.MIN_VALUE, Integer.MAX_VALUE, -1, -2, -10, 100, 1000, 61, 8, 9, 10};

    private final Random random;
    private final BeggarBridge real = new BeggarBridge();
    private final Oracle oracle = new Oracle();
    private final List<String> told = new ArrayList<>();
    private boolean differs;

    private OracleTest(long seed) {
        random = new Random(seed);
    }

    public static void main(String[] args) throws Exception {
        int runs = args.length > 0 ? Integer.parseInt(args[0]) : RUNS;
        for (int run = 0; run < runs && !Due.anyWrong(); run++) {
            new OracleTest(run).run(run);
        }
        laws(runs * 10);
        Due.end();
    }

    private void run(int number) throws Exception {
        int bridges = random.nextInt(9);
        int beggars = random.nextInt(10);
        for (int k = 0; k < bridges; k++) {
            call("bridge", 10 * draw(8) + draw(8), 1 + draw(9));
            if (random.nextBoolean()) {
                call("mend", k, 1, draw(100));
                call("mend", k, 2, draw(10));
            }
        }
        for (int b = 0; b < beggars; b++) {
            call("beggar", draw(10), draw(10));
            call("sits", b, draw(bridges + 1) - 1);
            if (random.nextBoolean()) {
                call("mend", b, 3, draw(40));
            }
        }
        if (random.nextInt(3) > 0) {
            tell(text(random, random.nextInt(60)));
        }
        while (told.size() < CALLS && !differs) {
            step();
        }
        Due.isTrue("run " + number + ": " + String.join("\n", told.subList(Math.max(0, told.size() - 60), told.size())),
                !differs);
    }

    private int draw(int below) {
        return random.nextInt(below);
    }

    /** Mostly within lo .. hi, now and then just beside or far away. */
    private int near(int lo, int hi) {
        int sort = random.nextInt(40);
        if (sort == 0) {
            return EDGES[random.nextInt(EDGES.length)];
        }
        if (sort == 1) {
            return lo - 1;
        }
        if (sort == 2) {
            return hi + 1;
        }
        return hi < lo ? lo : lo + random.nextInt(hi - lo + 1);
    }

    private int aBridge() {
        return near(0, Math.max(0, oracle.count(0) - 1));
    }

    private int aBeggar() {
        return near(0, Math.max(0, oracle.count(1) - 1));
    }

    private int aShelf() {
        return near(0, 5);
    }

    private int aPair() {
        return random.nextInt(20) == 0 ? near(0, 99) : 10 * draw(8) + draw(8);
    }

    private void tell(String text) throws Exception {
        for (int i = 0; i < text.length() && i < 120; i++) {
            call("feed", (int) text.charAt(i));
        }
        call("law");
    }

    private void step() throws Exception {
        switch (random.nextInt(48)) {
            case 0: call("bridge", aPair(), near(1, 9)); break;
            case 1: call("beggar", near(0, 9), near(0, 9)); break;
            case 2: aRowOfBeggars(); break;
            case 3: case 4: case 5: case 6: aMending(); break;
            case 7: call("of", random.nextBoolean() ? aBridge() : aBeggar(), near(0, 10)); break;
            case 8: call("feed", near(0, 255)); break;
            case 9: call("law"); break;
            case 10: tell(text(random, random.nextInt(40))); break;
            case 11: call("cracks", aBridge()); break;
            case 12: call("later", near(0, 60), aBridge(), 0); break;
            case 13: call("later", near(0, 60), aBeggar(), near(0, 1)); break;
            case 14: call("county", near(0, 60), near(0, 2)); break;
            case 15: call("falls", random.nextInt(3) == 0 ? -1 : aBridge()); break;
            case 16: call("rich", aBeggar()); break;
            case 17: call("without", aBridge()); break;
            case 18: call("moved", near(0, 20), near(0, 2)); break;
            case 19: case 20: call("lasting", random.nextInt(4) == 0 ? -1 : aBridge()); break;
            case 21: case 22: call("way", aPair(), near(0, 3)); break;
            case 23: call("needed"); break;
            case 24: case 25: aBook(); break;
            case 26: call("fined", aBeggar(), near(0, 9999)); break;
            case 27: call("claim", near(0, 7)); break;
            case 28: if (random.nextInt(4) == 0) call("byTurns", aBridge(), near(1, 3) * 100 + near(0, 20), near(0, 1)); break;
            case 29: if (random.nextInt(3) == 0) call("drawn", random.nextInt(), near(1, random.nextInt(4) == 0 ? 30 : 5) * 10000 + near(1, 60) * 100 + near(0, 12), random.nextBoolean() ? -1 : aBridge()); break;
            case 30: call("day"); break;
            case 31: call("sits", aBeggar(), near(-1, oracle.count(0) - 1)); break;
            case 32: call("given", aBeggar(), near(1, 99)); break;
            case 33: call("repair", aBridge(), near(1, 99)); break;
            case 34: call("led", near(0, 4)); break;
            case 35: if (random.nextInt(4) == 0) call("image"); break;
            case 36: if (random.nextInt(4) == 0) call("back"); break;
            case 37: call("undo"); break;
            case 38: call("redo"); break;
            case 39: call("body", near(0, 7)); break;
            case 40: anAct(); break;
            case 41: call("keep", aShelf(), near(-1, oracle.count(4) - 1)); break;
            case 42: call("row", aShelf(), near(0, 4), random.nextBoolean() ? near(0, 60) : near(0, 5)); break;
            case 43: call("put", aShelf(), near(0, 10), random.nextBoolean() ? random.nextLong() : (long) near(0, 99)); break;
            case 44: call("element", aShelf(), near(0, 10)); break;
            case 45: call("shift", aShelf(), near(0, 6), aShelf(), near(0, 6), near(0, 6)); break;
            case 46: call("taken", aShelf(), near(0, 7)); break;
            default: call("count", near(0, 5)); break;
        }
    }

    private void aMending() throws Exception {
        int what = near(0, 8);
        int[] most = {9, 99, 9, 99, 9, 9, oracle.count(0) - 1, 99, 6};
        int number = what < 3 ? aBridge() : what < 7 ? aBeggar() : near(0, 0);
        int v = what < 0 || what > 8 ? draw(10) : near(what == 0 ? 1 : what == 6 ? -1 : 0, most[what]);
        call("mend", number, what, what == 7 && random.nextBoolean() ? draw(30) : v);
    }

    private void anAct() throws Exception {
        call("act", near(0, oracle.count(4) - 1), near(0, 3), random.nextBoolean() ? draw(20) - 10 : random.nextInt());
        call("count", 5);
        int shown = Math.min(25, oracle.count(5) + 1);
        for (int i = 0; i < shown; i++) {
            call("trace", i);
        }
        call("trace", near(0, 24));
    }

    private void aRowOfBeggars() throws Exception {
        int shelf = draw(6);
        int n = draw(30);
        call("row", shelf, 0, n);
        for (int i = 0; i < n; i++) {
            int most = i % 4 == 0 ? 99 : i % 4 == 3 ? oracle.count(0) - 1 : 9;
            call("put", shelf, i, (long) (random.nextInt(30) == 0 ? draw(256) : i % 4 == 3 ? draw(most + 2) - 1 : draw(most + 1)));
        }
        call("beggars", random.nextInt(8) == 0 ? aShelf() : shelf, random.nextInt(3) == 0 ? near(0, n) : 0, near(1, 9));
    }

    private void aBook() throws Exception {
        int shelf = draw(6);
        int k = aBridge();
        if (random.nextInt(4) > 0) {
            int n = draw(random.nextInt(5) == 0 ? 61 : 12);
            call("row", shelf, 0, n);
            for (int i = 0; i < n; i++) {
                int sound = oracle.later(i, k, 0);
                call("put", shelf, i, (long) (random.nextInt(40) == 0 ? draw(100) : sound));
            }
        }
        call("judge", shelf, k);
        call("fits", shelf, k, aBeggar(), draw(2));
        call("fits", shelf, k, random.nextBoolean() ? k : aBridge(), 2 + draw(2));
        call("fits", near(0, 5), aBridge(), aBridge(), near(0, 3));
    }

    private void call(String name, Object... given) throws Exception {
        Class<?>[] types = new Class<?>[given.length];
        StringBuilder row = new StringBuilder(name).append('(');
        for (int i = 0; i < given.length; i++) {
            types[i] = given[i] instanceof Long ? long.class : int.class;
            row.append(i == 0 ? "" : ", ").append(given[i]);
        }
        if (told.size() >= CALLS || differs) {
            return;
        }
        Method ours = BeggarBridge.class.getDeclaredMethod(name, types);
        Method theirs = Oracle.class.getDeclaredMethod(name, types);
        long got = ((Number) ours.invoke(real, given)).longValue();
        long want = ((Number) theirs.invoke(oracle, given)).longValue();
        told.add(row.append(") = ").append(got).append(got == want ? "" : ", due is " + want).toString());
        differs = got != want;
    }

    /** Texts, some with a fault, and what they give for drawn numbers of one bridge. */
    private static void laws(int texts) {
        Random random = new Random(7);
        for (int i = 0; i < texts; i++) {
            String t = text(random, random.nextInt(119));
            BeggarBridge x = new BeggarBridge();
            for (int c = 0; c < t.length() && c < 120; c++) {
                x.feed(t.charAt(c));
            }
            t = t.length() > 120 ? t.substring(0, 120) : t;
            int fault = Oracle.fault(t);
            Due.is("law() of " + t, x.law(), fault < 0 ? 1 : -100 - fault);
            if (fault < 0) {
                int s = 1 + random.nextInt(9);
                int sound = random.nextInt(100);
                int today = random.nextInt(7);
                int alms = random.nextInt(10);
                x.bridge(1, s);
                x.mend(0, 1, sound);
                x.mend(0, 2, alms);
                x.mend(0, 8, today);
                int h = random.nextInt(4);
                int r = random.nextInt(4);
                for (int b = 0; b < h + r; b++) {
                    x.beggar(1, 1);
                    x.sits(b, 0);
                    x.mend(b, 3, b < h ? 9 : 10);
                }
                int v = new Oracle.Reading(t, s, h, r, alms, today, sound).text();
                Due.is("cracks by " + t, x.cracks(0), Math.max(0, Math.min(20, v)));
            }
        }
    }

    /** A text of the grammar, of some length, one time in three with a sign changed, cut or put in. */
    private static String text(Random random, int length) {
        StringBuilder b = new StringBuilder();
        do {
            b.append(b.length() == 0 ? "" : ";").append(anE(random, 0));
            if (random.nextInt(3) == 0) {
                b.append('?').append(anE(random, 0));
            }
        } while (b.length() < length);
        if (random.nextInt(3) == 0) {
            int at = random.nextInt(b.length());
            String signs = "|&<=>+-*/%!()?;0123456789shradx qS";
            char c = signs.charAt(random.nextInt(signs.length()));
            switch (random.nextInt(4)) {
                case 0: b.setCharAt(at, c); break;
                case 1: b.deleteCharAt(at); break;
                case 2: b.insert(at, c); break;
                default: b.setLength(at); break;
            }
        }
        return b.toString();
    }

    private static String anE(Random random, int depth) {
        int sort = depth > 4 ? random.nextInt(7) : random.nextInt(18);
        if (sort < 3) {
            return String.valueOf(random.nextInt(random.nextInt(6) == 0 ? 10000 : 12));
        }
        if (sort < 7) {
            return String.valueOf("shradx".charAt(random.nextInt(6)));
        }
        if (sort == 7) {
            return "(" + anE(random, depth + 1) + ")";
        }
        if (sort == 8) {
            return "!" + anE(random, depth + 1);
        }
        if (sort == 9) {
            return "-" + anE(random, depth + 1);
        }
        return anE(random, depth + 1) + "+-*/%+-*/%<=>|&".charAt(random.nextInt(15)) + anE(random, depth + 1);
    }
}

import java.lang.reflect.Method;
import java.util.ArrayList;
import java.util.HashMap;
import java.util.List;
import java.util.Map;
import java.util.Set;
import java.util.regex.Matcher;
import java.util.regex.Pattern;

/**
 * A run of calls on a new object, told as a text: bridge(1, 4) = 0; of(0, 1) = 99; ..
 * Every answer told behind = must come. And whether or not an answer is told: a call that is refused, and
 * one that only asks, must leave all that can be seen of the object as it was; what can be seen is read
 * on objects of their own, that had the same calls, so that undo(), redo(), back(), law() can be tried there.
 */
final class Script {
    /** An object is used for at most so many calls: no test may ask more of it. */
    private static final int MOST_CALLS = 512;
    private static final Pattern CALL = Pattern.compile("(\\w+)\\(([^)]*)\\)(?: = (\\S+))?");
    private static final Set<String> ASKING = Set.of("of", "cracks", "later", "county", "falls", "rich", "without",
            "moved", "lasting", "way", "needed", "judge", "fits", "fined", "claim", "byTurns", "drawn", "led", "trace",
            "element", "taken", "count");
    private static final Map<String, Long> WORDS = new HashMap<>();
    private static final Map<String, Method> METHODS = new HashMap<>();

    static {
        WORDS.put("BAD", -1L);
        WORDS.put("NOT", -2L);
        WORDS.put("FULL", -3L);
        WORDS.put("STATE", -5L);
        WORDS.put("VOID", -2000000000L);
        WORDS.put("LEAST", (long) Integer.MIN_VALUE);
        WORDS.put("MOST", (long) Integer.MAX_VALUE);
        WORDS.put("LEASTLONG", Long.MIN_VALUE);
        WORDS.put("MOSTLONG", Long.MAX_VALUE);
        for (Method m : BeggarBridge.class.getDeclaredMethods()) {
            METHODS.put(m.getName(), m);
        }
    }

    private Script() {
    }

    private static final class Call {
        final String text;
        final Method method;
        final Object[] given;
        final Long due;

        Call(String name, long[] numbers, Long due) {
            this.due = due;
            method = METHODS.get(name);
            if (method == null || method.getParameterCount() != numbers.length) {
                throw new IllegalStateException("no such call: " + name + " of " + numbers.length);
            }
            given = new Object[numbers.length];
            StringBuilder told = new StringBuilder(name).append('(');
            for (int i = 0; i < numbers.length; i++) {
                boolean isLong = method.getParameterTypes()[i] == long.class;
                if (!isLong && numbers[i] != (int) numbers[i]) {
                    throw new IllegalStateException(name + " takes no " + numbers[i]);
                }
                if (isLong) {
                    given[i] = numbers[i];
                } else {
                    given[i] = (int) numbers[i];
                }
                told.append(i == 0 ? "" : ", ").append(numbers[i]);
            }
            text = told.append(')').toString();
        }

        long on(BeggarBridge x) {
            try {
                return ((Number) method.invoke(x, given)).longValue();
            } catch (ReflectiveOperationException e) {
                throw new IllegalStateException(text, e);
            }
        }

        /** Whether such an answer says that nothing changed. */
        boolean changesNothing(long answer) {
            String name = method.getName();
            if (ASKING.contains(name)) {
                return true;
            }
            switch (name) {
                case "mend": case "sits": return answer == WORDS.get("VOID");
                case "beggars": case "shift": return answer <= 0;
                case "act": case "law": case "day": case "image": return false;
                default: return answer < 0;
            }
        }
    }

    /** Reads an object that had some calls; beyond MOST_CALLS it goes on with another one that had the same. */
    private static final class Reader {
        private final List<Call> ahead;
        private final List<Long> told;
        private BeggarBridge x;
        private int calls;

        Reader(List<Call> ahead, List<Long> told) {
            this.ahead = new ArrayList<>(ahead);
            this.told = told;
            begin();
        }

        private void begin() {
            x = new BeggarBridge();
            for (Call c : ahead) {
                c.on(x);
            }
            calls = ahead.size();
            if (calls >= MOST_CALLS) {
                throw new IllegalStateException("too many calls on one object");
            }
        }

        long ask(String name, long... numbers) {
            if (calls >= MOST_CALLS) {
                begin();
            }
            long answer = new Call(name, numbers, null).on(x);
            calls++;
            told.add(answer);
            return answer;
        }

        /** Asks what changes the object: from here on it had that call, too. */
        long let(String name, long... numbers) {
            long answer = ask(name, numbers);
            ahead.add(new Call(name, numbers, null));
            return answer;
        }
    }

    /** A sentence of a promise that names a boundary case, and the calls that show whether it holds. */
    static void sentence(int promise, String words, String... rows) {
        String title = promise + ", " + words + ": ";
        List<Call> calls = parsed(String.join(";", rows));
        if (calls.isEmpty() || calls.size() > MOST_CALLS) {
            throw new IllegalStateException(title + calls.size() + " calls");
        }
        BeggarBridge x = new BeggarBridge();
        List<Long> state = null;
        for (int i = 0; i < calls.size(); i++) {
            Call c = calls.get(i);
            long answer = c.on(x);
            if (c.due != null) {
                Due.is(title + c.text + " (call " + (i + 1) + ")", answer, c.due);
            }
            boolean same = c.due != null && c.changesNothing(answer);
            if (same) {
                List<Long> before = state != null ? state : stateBehind(calls.subList(0, i));
                state = stateBehind(calls.subList(0, i + 1));
                Due.isTrue(title + c.text + " (call " + (i + 1) + ") changes something", before.equals(state));
            } else {
                state = null;
            }
        }
    }

    private static List<Call> parsed(String text) {
        List<Call> calls = new ArrayList<>();
        for (String row : text.split(";")) {
            String told = row.trim();
            if (told.isEmpty()) {
                continue;
            }
            Matcher m = CALL.matcher(told);
            if (!m.matches()) {
                throw new IllegalStateException("no call: " + told);
            }
            String[] parts = m.group(2).isBlank() ? new String[0] : m.group(2).split(",");
            long[] numbers = new long[parts.length];
            for (int i = 0; i < parts.length; i++) {
                numbers[i] = number(parts[i].trim());
            }
            calls.add(new Call(m.group(1), numbers, m.group(3) == null ? null : number(m.group(3))));
        }
        return calls;
    }

    private static long number(String word) {
        return WORDS.containsKey(word) ? WORDS.get(word) : Long.parseLong(word);
    }

    /** All that can be seen of an object that had these calls. */
    private static List<Long> stateBehind(List<Call> calls) {
        List<Long> told = new ArrayList<>();
        Reader whole = new Reader(calls, told);
        for (int what = 0; what < 6; what++) {
            whole.ask("count", what);
        }
        readNumbers(whole);
        for (int i = 0; i < 25; i++) {
            whole.ask("trace", i);
        }
        readShelves(whole);
        Reader again = new Reader(calls, told);
        for (int i = 0; i < 41 && again.let("redo") >= 0; i++) {
            again.ask("count", 3);
        }
        readNumbers(again);
        Reader back = new Reader(calls, told);
        for (int i = 0; i < 41 && back.let("undo") >= 0; i++) {
            back.ask("count", 3);
        }
        readNumbers(back);
        Reader image = new Reader(calls, told);
        image.let("back");
        readNumbers(image);
        Reader law = new Reader(calls, told);
        law.let("law");
        readNumbers(law);
        return told;
    }

    private static void readNumbers(Reader r) {
        for (int k = 0; k < 8 && r.ask("of", k, 0) >= 0; k++) {
            for (int what : new int[] {1, 2, 9, 10}) {
                r.ask("of", k, what);
            }
            r.ask("cracks", k);
        }
        for (int b = 0; b < 9 && r.ask("of", b, 3) >= 0; b++) {
            for (int what : new int[] {4, 5, 6}) {
                r.ask("of", b, what);
            }
        }
        r.ask("of", 0, 7);
        r.ask("of", 0, 8);
        for (int what = 0; what < 5; what++) {
            r.ask("led", what);
        }
    }

    /** Elements up to the end of each ROW, and what the first one keeps of a long (so, its sort). */
    private static void readShelves(Reader r) {
        for (int shelf = 0; shelf < 6; shelf++) {
            if (r.ask("taken", shelf, 0) == -12) {
                for (int i = 0; i < 61 && r.ask("element", shelf, i) != Long.MIN_VALUE; i++) {
                    continue;
                }
                r.let("put", shelf, 0, 0x7123456789abcdefL);
                r.ask("element", shelf, 0);
            }
        }
    }

    /** n bridges in a row, 0-1, 1-2 .., of span 4: each cracks 2 a day, if nobody sits there. */
    static String line(int n) {
        StringBuilder b = new StringBuilder();
        for (int k = 0; k < n; k++) {
            b.append("bridge(").append(11 * k + 1).append(", 4);");
        }
        return b.toString();
    }

    static String times(int n, String row) {
        return (row + ";").repeat(n);
    }

    /** As times(), with # for 0, 1, 2 .. */
    static String each(int n, String row) {
        StringBuilder b = new StringBuilder();
        for (int i = 0; i < n; i++) {
            b.append(row.replace("#", String.valueOf(i))).append(';');
        }
        return b.toString();
    }

    static String tape(String text) {
        StringBuilder b = new StringBuilder();
        for (int i = 0; i < text.length(); i++) {
            b.append("feed(").append((int) text.charAt(i)).append(");");
        }
        return b.toString();
    }

    static String law(String text) {
        return tape(text) + "law() = 1;";
    }

    static String bytes(int shelf, int... v) {
        StringBuilder b = new StringBuilder("row(" + shelf + ", 0, " + v.length + ") = 1;");
        for (int i = 0; i < v.length; i++) {
            b.append("put(").append(shelf).append(", ").append(i).append(", ").append(v[i]).append(") = 1;");
        }
        return b.toString();
    }
}

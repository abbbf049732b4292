import java.io.File;
import java.lang.reflect.Field;
import java.lang.reflect.Method;
import java.lang.reflect.Modifier;
import java.nio.file.Files;
import java.nio.file.Path;
import java.util.ArrayList;
import java.util.List;
import java.util.Set;
import java.util.TreeSet;
import java.util.regex.Matcher;
import java.util.regex.Pattern;

/** README.md holds for the files as they stand: its calls, its tables, its list of tests. */
public final class ReadmeTest {
    private static final Pattern BLOCK = Pattern.compile("(?s)```java\n(.*?)```");
    private static final Pattern CALL = Pattern.compile("county\\.(\\w+)\\(([^)]*|'\\)')\\); +// (-?\\d+)\\b.*");
    private static final Pattern ROW_OF_CALL = Pattern.compile("(?m)^\\| `(\\w+)\\(([^)]*)\\)` \\| (.+) \\| (.+) \\|$");
    private static final Pattern ROW_OF_REFUSAL = Pattern.compile("(?m)^\\| ([A-Z]*) ?\\| (-\\d+) \\| (.+) \\|$");
    private static final Pattern NAMED = Pattern.compile("`([A-Za-z./]+)`");

    private static Path root;
    /** Empty where only the tests of ../shared are at hand: then README is held to the class alone. */
    private static String document = "";

    public static void main(String[] args) throws Exception {
        root = Path.of(System.getProperty("project", "."));
        String page = Files.readString(root.resolve("README.md"));
        if (Files.exists(root.resolve("../shared/DOC.md"))) {
            document = Files.readString(root.resolve("../shared/DOC.md"));
        }
        callsAnswerAsTold(page);
        everyCallIsTold(page);
        everyConstantIsTold(page);
        everyTestIsTold(page);
        everyFileIsThere(page);
        Due.end();
    }

    private static void callsAnswerAsTold(String page) throws Exception {
        Matcher block = BLOCK.matcher(page);
        int blocks = 0;
        while (block.find()) {
            blocks++;
            String[] lines = block.group(1).split("\n");
            Due.isTrue("a block begins with a new object: " + lines[0],
                    lines[0].equals("BeggarBridge county = new BeggarBridge();"));
            BeggarBridge county = new BeggarBridge();
            for (int i = 1; i < lines.length; i++) {
                Matcher call = CALL.matcher(lines[i]);
                Due.isTrue("no call: " + lines[i], call.matches());
                if (call.matches()) {
                    Due.is("README: " + lines[i], answer(county, call.group(1), call.group(2)),
                            Long.parseLong(call.group(3)));
                    constantIsAsTold(lines[i], Long.parseLong(call.group(3)));
                }
            }
        }
        Due.isTrue("README has blocks of calls", blocks >= 4);
    }

    /** A refusal told with its name, as -1 (BAD), has the right one. */
    private static void constantIsAsTold(String line, long due) throws Exception {
        Matcher m = Pattern.compile("// -\\d+ \\(([A-Z]+)\\)").matcher(line);
        if (m.find()) {
            Due.is("README: " + line, BeggarBridge.class.getField(m.group(1)).getInt(null), due);
        }
    }

    private static long answer(BeggarBridge county, String name, String numbers) throws Exception {
        String[] told = numbers.isEmpty() ? new String[0] : numbers.split(", ");
        Method method = methodNamed(name);
        Object[] given = new Object[told.length];
        for (int i = 0; i < told.length; i++) {
            int v = told[i].startsWith("'") ? told[i].charAt(1) : Integer.parseInt(told[i]);
            given[i] = method.getParameterTypes()[i] == long.class ? (Object) (long) v : (Object) v;
        }
        return ((Number) method.invoke(county, given)).longValue();
    }

    private static Method methodNamed(String name) {
        for (Method m : BeggarBridge.class.getDeclaredMethods()) {
            if (m.getName().equals(name) && Modifier.isPublic(m.getModifiers())) {
                return m;
            }
        }
        throw new IllegalStateException("README tells a call that is not there: " + name);
    }

    private static void everyCallIsTold(String page) {
        List<String> told = new ArrayList<>();
        Set<String> names = new TreeSet<>();
        Matcher row = ROW_OF_CALL.matcher(page);
        while (row.find()) {
            int width = row.group(2).isEmpty() ? 0 : row.group(2).split(", ").length;
            Due.is("README: numbers of " + row.group(1), width, methodNamed(row.group(1)).getParameterCount());
            told.add(row.group(1) + "(" + row.group(2) + ")");
            names.add(row.group(1));
            if (!document.isEmpty()) {
                refusalsAreTold(row.group(1), row.group(4));
            }
        }
        Set<String> there = new TreeSet<>();
        for (Method m : BeggarBridge.class.getDeclaredMethods()) {
            if (Modifier.isPublic(m.getModifiers())) {
                there.add(m.getName());
            }
        }
        Due.isTrue("README tells the calls " + names + " of " + there, names.equals(there));
        if (!document.isEmpty()) {
            callsAreToldInOrder(told);
        }
    }

    private static void callsAreToldInOrder(List<String> told) {
        List<String> due = new ArrayList<>();
        Matcher face = Pattern.compile("(?m)^    public (?:int|long) (\\w+)\\((.*)\\);$").matcher(document);
        while (face.find()) {
            due.add(face.group(1) + "(" + face.group(2).replace("int ", "").replace("long ", "") + ")");
        }
        Due.is("calls in the document", due.size(), 42);
        Due.isTrue("README tells " + told + " of " + due, told.equals(due));
    }

    /** The refusals of a call are those that its promise in the document names. */
    private static void refusalsAreTold(String name, String refusals) {
        Matcher promise = Pattern.compile("(?m)^`(?:int|long) " + name + "\\(.*?\\)`: (.*)$").matcher(document);
        boolean isTold = promise.find();
        Due.isTrue("the document tells of " + name, isTold);
        if (!isTold) {
            return;
        }
        Set<String> told = namesOfRefusals(refusals);
        Set<String> wanted = namesOfRefusals(promise.group(1).replace("-11 to -13", "-11, -12, -13"));
        if (name.equals("mend") || name.equals("of") || name.equals("sits") || name.equals("element")) {
            // "VOID: BAD" and "Long.MIN_VALUE: BAD, -11 to -13": only the first is ever answered
            wanted.removeIf(word -> word.equals("BAD") || word.startsWith("-1"));
        }
        Due.isTrue("README: refusals of " + name + " are " + told + ", due are " + wanted, told.equals(wanted));
    }

    private static Set<String> namesOfRefusals(String text) {
        Set<String> names = new TreeSet<>();
        Matcher m = Pattern.compile("\\b(?:BAD|NOT|FULL|STATE|VOID|Long\\.MIN_VALUE)\\b|-1[1-4]\\b").matcher(text);
        while (m.find()) {
            names.add(m.group());
        }
        return names;
    }

    private static void everyConstantIsTold(String page) throws Exception {
        Set<String> told = new TreeSet<>();
        Set<Long> numbers = new TreeSet<>();
        Matcher row = ROW_OF_REFUSAL.matcher(page);
        while (row.find()) {
            numbers.add(Long.parseLong(row.group(2)));
            if (!row.group(1).isEmpty()) {
                told.add(row.group(1));
                Due.is("README: " + row.group(1), Long.parseLong(row.group(2)),
                        BeggarBridge.class.getField(row.group(1)).getInt(null));
            }
        }
        Set<String> constants = new TreeSet<>();
        for (Field f : BeggarBridge.class.getFields()) {
            constants.add(f.getName());
        }
        Due.isTrue("README tells the constants " + told + " of " + constants, told.equals(constants));
        Due.isTrue("README tells the refusals " + numbers,
                numbers.equals(Set.of(-1L, -2L, -3L, -5L, -11L, -12L, -13L, -14L, -2000000000L)));
    }

    private static void everyTestIsTold(String page) {
        Set<String> told = new TreeSet<>();
        Matcher m = Pattern.compile("`(\\w+Test)`").matcher(page);
        while (m.find()) {
            told.add(m.group(1));
        }
        Set<String> there = new TreeSet<>();
        for (File file : root.resolve("src/test/java").toFile().listFiles()) {
            if (file.getName().endsWith("Test.java")) {
                there.add(file.getName().replace(".java", ""));
            }
        }
        Due.isTrue("README tells the tests " + told + " of " + there, told.equals(there));
    }

    private static void everyFileIsThere(String page) {
        Matcher m = NAMED.matcher(page);
        while (m.find()) {
            boolean isBeside = m.group(1).startsWith("../");
            if (m.group(1).contains("/") && !(isBeside && document.isEmpty())) {
                Due.isTrue("README names " + m.group(1), Files.exists(root.resolve(m.group(1))));
            }
        }
    }
}

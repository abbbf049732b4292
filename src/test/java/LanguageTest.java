import java.nio.file.Files;
import java.nio.file.Path;
import java.util.Set;
import java.util.regex.Matcher;
import java.util.regex.Pattern;

/** Rules of LANGUAGE.md that the text of the class shows. */
public final class LanguageTest {
    private static final String[] BANNED = {
        "throw", "throws", "try", "catch", "synchronized", "assert", "volatile", "yield", "package",
        "Exception", "Error", "Object", "Random", "Thread", "System\\.(?!arraycopy)", "->", "::",
        "hashCode", "String toString\\(", "new [A-Z]\\w*\\([^)]*\\) *\\{", "Exact\\("};

    private static final Set<String> IMPORTS = Set.of("java.util.Arrays", "java.util.ArrayList", "java.util.List",
            "java.util.Iterator");

    public static void main(String[] args) throws Exception {
        String root = System.getProperty("project", ".");
        String whole = Files.readString(Path.of(root, "src/main/java/BeggarBridge.java"));
        String code = whole.replaceAll("(?s)/\\*.*?\\*/", "").replaceAll("//[^\n]*", "");
        for (String word : BANNED) {
            boolean isWord = Character.isLetter(word.charAt(0)) && Character.isLetter(word.charAt(word.length() - 1));
            Matcher m = Pattern.compile(isWord ? "\\b" + word + "\\b" : word).matcher(code);
            Due.isTrue("the class uses " + word, !m.find());
        }
        Matcher imports = Pattern.compile("import ([\\w.*]+);").matcher(code);
        while (imports.find()) {
            Due.isTrue("the class imports " + imports.group(1), IMPORTS.contains(imports.group(1)));
        }
        for (int i = 0; i < whole.length(); i++) {
            Due.isTrue("a sign that is not plain at " + i, whole.charAt(i) < 128);
        }
        methodsAreShort(code);
        Due.end();
    }

    private static void methodsAreShort(String code) {
        String[] lines = code.split("\n");
        Pattern head = Pattern.compile("^( {4}| {8})\\S.*\\) \\{$");
        for (int i = 0; i < lines.length; i++) {
            Matcher m = head.matcher(lines[i]);
            if (m.find()) {
                int end = i;
                while (end < lines.length && !lines[end].equals(m.group(1) + "}")) {
                    end++;
                }
                Due.isTrue(lines[i].trim() + " is long", end - i <= 60);
            }
        }
    }
}

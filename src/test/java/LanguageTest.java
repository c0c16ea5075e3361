import java.nio.file.Files;
import java.nio.file.Path;
import java.util.List;
import java.util.regex.Matcher;
import java.util.regex.Pattern;

/** Rules of ../shared/LANGUAGE.md that can be read off the program's text. */
final class LanguageTest {
    private static final Path SOURCE = Path.of("src", "main", "java", "LinkRouter.java");
    private static final String[] RULED_OUT = {
        "throw", "throws", "try", "catch", "finally", "synchronized", "assert", "package", "volatile", "transient",
        "native", "equals", "hashCode", "toString", "Object", "Exception", "System\\.(?!arraycopy)\\w+", "Thread",
        "Random", "Map", "HashMap", "Set", "Stream", "Optional", "->", "::", "var", "\\w+Exact", "protected", "instanceof",
    };

    private LanguageTest() {
    }

    static void run() throws Exception {
        Check.part("language");
        String text = Files.readString(SOURCE);
        String code = text.replaceAll("(?s)/\\*.*?\\*/", " ").replaceAll("//[^\n]*", "");
        for (String word : RULED_OUT) {
            boolean isWord = Character.isLetter(word.charAt(0));
            Matcher matcher = Pattern.compile(isWord ? "\\b" + word + "\\b" : word).matcher(code);
            Check.holds("it has no " + word, !matcher.find());
        }
        Matcher imports = Pattern.compile("import ([^;]+);").matcher(code);
        while (imports.find()) {
            Check.holds("import " + imports.group(1),
                List.of("java.util.Arrays", "java.util.ArrayList", "java.util.List").contains(imports.group(1)));
        }
        Check.holds("its signs are 1 to 127", text.chars().allMatch(c -> c > 0 && c < 128));
        Check.holds("at most twelve classes", count(code, "\\bclass \\w+") <= 12);
        Check.holds("static fields are final", count(code, "\\bstatic (?!final)[\\w\\[\\]]+ \\w+( =|;)") == 0);
        Check.holds("one public class", count(code, "\\bpublic final class\\b") == 1);
        Check.holds("inner classes are static", count(code, "\\n {4,}[^\n]*class \\w+")
            == count(code, "\\n {4,}[^\n]*static final class \\w+"));
        methodsAreShort(code);
    }

    private static int count(String code, String pattern) {
        Matcher matcher = Pattern.compile(pattern).matcher(code);
        int sum = 0;
        while (matcher.find()) {
            sum++;
        }
        return sum;
    }

    /** A method's first line ends with a brace behind its parameters; its last is a brace as far in. */
    private static void methodsAreShort(String code) {
        String[] lines = code.split("\n");
        for (int i = 0; i < lines.length; i++) {
            Matcher head = Pattern.compile("^( {4}| {8})(?=\\S)[\\w\\[\\]<> ]*\\w+\\(([^()]*)\\) \\{$").matcher(lines[i]);
            if (head.find() && !lines[i].matches(" *(if|for|while|switch|else).*")) {
                int end = i;
                while (end < lines.length && !lines[end].equals(head.group(1) + "}")) {
                    end++;
                }
                Check.holds(lines[i].trim() + " has at most 60 lines", end - i < 60);
                Check.holds(lines[i].trim() + " has at most 7 parameters", head.group(2).split(",").length <= 7);
            }
        }
    }
}

import java.io.IOException;
import java.nio.file.Files;
import java.nio.file.Path;
import java.util.regex.Matcher;
import java.util.regex.Pattern;

/** Rules of ../shared/LANGUAGE.md that can be seen in the text of the class. Told: the source's path. */
public final class LanguageTest {
    private static final String[] WORDS_RULED_OUT = {
        "throw", "throws", "try", "catch", "synchronized", "assert", "import", "package", "native", "volatile",
        "Exception", "Error", "Object", "hashCode", "toString", "Random", "Thread", "HashMap", "protected",
        "addExact", "multiplyExact", "subtractExact", "NaN",
    };
    private static final int LINES_OF_METHOD = 60;
    private static final int CLASSES = 12;

    public static void main(String[] args) throws IOException {
        String path = args.length > 0 ? args[0] : "src/main/java/FallingRules.java";
        String code = withoutComments(Files.readString(Path.of(path)));
        Due due = new Due();
        for (String word : WORDS_RULED_OUT) {
            due.holds("no word " + word, !Pattern.compile("\\b" + word + "\\b").matcher(code).find());
        }
        due.holds("no lambda", !code.contains("->"));
        due.holds("no method reference", !code.contains("::"));
        due.holds("no text", !code.contains("\""));
        due.holds("no inner class that is not static",
            count(code, "\\bclass\\b") == count(code, "\\bprivate static final class\\b|\\bpublic final class\\b"));
        due.holds("not too many classes", count(code, "\\bclass\\b") <= CLASSES);
        due.holds("ends visible: no while (true) and no for (;;)",
            !code.contains("while (true)") && !code.contains("for (;;)"));
        lookAtMethods(code, due);
        due.end();
    }

    private static String withoutComments(String code) {
        return code.replaceAll("(?s)/\\*.*?\\*/", "").replaceAll("//[^\n]*", "");
    }

    private static int count(String code, String pattern) {
        int found = 0;
        for (Matcher m = Pattern.compile(pattern).matcher(code); m.find();) {
            found++;
        }
        return found;
    }

    private static void lookAtMethods(String code, Due due) {
        Pattern head = Pattern.compile("(?m)^( +)(?:public |private |static )*\\w+ (\\w+)\\(([^)]*)\\) \\{$");
        for (Matcher m = head.matcher(code); m.find();) {
            int end = code.indexOf("\n" + m.group(1) + "}", m.end());
            long lines = code.substring(m.start(), end).lines().count();
            due.holds(m.group(2) + " is short: " + lines, lines <= LINES_OF_METHOD);
            due.holds(m.group(2) + " takes seven at most", m.group(3).split(",").length <= 7);
        }
    }
}

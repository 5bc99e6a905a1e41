import java.io.IOException;
import java.nio.file.Files;
import java.nio.file.Path;
import java.util.Set;
import java.util.TreeSet;
import java.util.regex.Matcher;
import java.util.regex.Pattern;

/** What of ../shared/LANGUAGE.md can be seen by the words of the file: its name is the first argument. */
public final class LanguageTest {
    private static final String[] RULED_OUT = {"throw", "throws", "try", "catch", "finally", "synchronized", "assert",
        "Object", "instanceof", "hashCode", "toString", "Exact", "float", "double", "protected", "Random", "System.out",
        "volatile", "transient", "native", "var", "this::", "->", "::", "@", "Thread", "Character", "Boolean"};
    private static int wrong = 0;

    private static void fault(String what) {
        wrong++;
        System.out.println(what);
    }

    private static String withoutComments(String source) {
        return source.replaceAll("(?s)/\\*.*?\\*/", "").replaceAll("//[^\n]*", "");
    }

    private static int times(String what, String source) {
        Matcher m = Pattern.compile(what).matcher(source);
        int n = 0;
        while (m.find()) {
            n++;
        }
        return n;
    }

    private static void words(String source) {
        for (String word : RULED_OUT) {
            boolean isWord = Character.isLetter(word.charAt(0));
            if (times(isWord ? "\\b" + Pattern.quote(word) + "\\b" : Pattern.quote(word), source) > 0) {
                fault("ruled out: " + word);
            }
        }
        if (times("(?m)^import ", source) != times("(?m)^import java\\.util\\.Arrays;", source)) {
            fault("imports");
        }
        if (times("\\bclass\\b", source) > 12) {
            fault("too many classes");
        }
        if (times("(?m)^ +static \\{|static (?!final|boolean|int|long|String)", source) > 0) {
            fault("static state");
        }
        for (int k = 0; k < source.length(); k++) {
            if (source.charAt(k) > 126) {
                fault("sign " + (int) source.charAt(k));
            }
        }
    }

    /** Public names are those of the document, and no private method bears one of them. */
    private static void names(String source) {
        Set<String> open = new TreeSet<>();
        Matcher m = Pattern.compile("(?m)^    public \\w+ (\\w+)\\(").matcher(source);
        while (m.find()) {
            open.add(m.group(1));
        }
        if (open.size() != 32) {
            fault("public methods: " + open.size());
        }
        Matcher inner = Pattern.compile("(?m)^ +(?:private |static )*[\\w\\[\\]]+ (\\w+)\\([^;()]*\\) \\{").matcher(source);
        while (inner.find()) {
            if (open.contains(inner.group(1))) {
                fault("a name of a public method: " + inner.group(1));
            }
        }
        if (times("\\bpublic\\b", source) != open.size() + 3) {
            fault("public members");
        }
        if (times("(?m)^    (?!public|private|\\}|@)\\S", source) > 0) {
            fault("a member that is neither public nor private");
        }
    }

    /** Methods are at most sixty lines long. */
    private static void lengths(String source) {
        int start = -1;
        String[] lines = source.split("\n");
        for (int k = 0; k < lines.length; k++) {
            if (lines[k].matches(" {4,8}[\\w\\[\\] ]+\\(.*\\) \\{")) {
                start = k;
            } else if (lines[k].matches(" {4,8}\\}") && start >= 0) {
                if (k - start > 60) {
                    fault("a long method: " + lines[start]);
                }
                start = -1;
            }
        }
    }

    public static void main(String[] args) throws IOException {
        String name = args.length > 0 ? args[0] : "src/main/java/SinkingChoir.java";
        String source = withoutComments(Files.readString(Path.of(name)));
        words(source);
        names(source);
        lengths(source);
        System.out.println(wrong == 0 ? "the file keeps to its language" : wrong + " faults");
        if (wrong != 0) {
            System.exit(1);
        }
    }
}

import java.io.IOException;
import java.nio.file.Files;
import java.nio.file.Path;
import java.util.List;
import java.util.Set;
import java.util.TreeSet;
import java.util.regex.Matcher;
import java.util.regex.Pattern;

/** What the text of SeaJar.java shows of the rules of LANGUAGE.md; FaceTest has what its classes show. */
public final class LanguageTest {
    /** Rules 2, 6, 12, 13: these the class does without, though some might stand there. */
    private static final String[] NO_WORDS = {"package", "import", "try", "catch", "throw", "throws", "finally",
        "synchronized", "assert", "record", "var", "native", "volatile", "transient", "Object", "Thread",
        "equals", "hashCode", "toString", "goto", "yield", "strictfp"};
    private static final String[] NO_SIGNS = {"->", "::", "Exact(", "static {", "while (true)", "for (;;)", "\" +", "+ \""};
    /** Rule 4: of what the rule lists, this is used. */
    private static final Set<String> LIBRARY = Set.of("Math.min", "Math.max", "Integer.bitCount", "System.arraycopy");
    private static final Pattern FROM_LIBRARY = Pattern.compile("\\b(Math|Integer|Long|System|Arrays|String"
        + "|Character|Boolean|List|StringBuilder)\\.(\\w+)");
    private static final Pattern METHOD = Pattern.compile("^ {4,8}(?!private static (?:final )?class|static final)"
        + "(?:[\\w\\[\\]]+ )*\\w+\\(([^)]*)\\) \\{$");

    public static void main(String[] args) throws IOException {
        Check c = new Check();
        String source = Files.readString(Path.of("src/main/java/SeaJar.java"));
        c.about("rule 3");
        c.holds("signs 10 and 32 .. 126 alone", source.chars().allMatch(l -> l == 10 || l >= 32 && l <= 126));
        String code = withoutComments(source);
        words(c, code);
        library(c, code);
        methods(c, code);
        c.end("LanguageTest");
    }

    private static String withoutComments(String source) {
        return source.replaceAll("(?s)/\\*.*?\\*/", "").replaceAll("//[^\n]*", "");
    }

    private static void words(Check c, String code) {
        c.about("words");
        for (String word : NO_WORDS) {
            c.holds("no " + word, !Pattern.compile("\\b" + word + "\\b").matcher(code).find());
        }
        for (String signs : NO_SIGNS) {
            c.holds("no " + signs, !code.contains(signs));
        }
    }

    private static void library(Check c, String code) {
        c.about("rule 4");
        Matcher used = FROM_LIBRARY.matcher(code);
        Set<String> found = new TreeSet<>();
        while (used.find()) {
            found.add(used.group());
        }
        c.holds("of the library " + found, LIBRARY.containsAll(found));
    }

    private static void methods(Check c, String code) {
        c.about("rule 11");
        List<String> lines = code.lines().toList();
        int methods = 0;
        for (int k = 0; k < lines.size(); k++) {
            Matcher head = METHOD.matcher(lines.get(k));
            if (head.matches()) {
                methods++;
                String end = lines.get(k).replaceAll("\\S.*", "") + "}";
                int last = k;
                while (last < lines.size() && !lines.get(last).equals(end)) {
                    last++;
                }
                c.holds(lines.get(k).trim() + " is of sixty lines at most", last - k < 60);
                c.holds(lines.get(k).trim() + " takes seven at most", head.group(1).split(",").length <= 7);
            }
        }
        c.holds("methods are found: " + methods, methods >= 60);
    }
}

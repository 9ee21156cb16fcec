import java.nio.file.Files;
import java.nio.file.Path;
import java.util.regex.Matcher;
import java.util.regex.Pattern;

/** Rules of LANGUAGE.md that can be seen in the source's words alone. */
public final class RulesTest {
    private static final String[] FORBIDDEN = {
        "throw", "throws", "try", "catch", "synchronized", "assert", "protected", "package", "Object", "System.out",
        "Random", "Thread", "hashCode", "toString", "HashMap", "Map", "Set", "Exact", "volatile", "native",
    };

    public static void main(String[] args) throws Exception {
        String source = Files.readString(Path.of(System.getProperty("source")));
        String bare = source.replaceAll("(?s)/\\*.*?\\*/", "").replaceAll("//[^\n]*", "");
        for (String word : FORBIDDEN) {
            Check.that("no " + word, !Pattern.compile("\\b" + Pattern.quote(word) + "\\b").matcher(bare).find());
        }
        Check.that("no lambda", !bare.contains("->"));
        Check.that("no method reference", !bare.contains("::"));
        Check.that("signs 1 to 127 alone", source.chars().allMatch(c -> c < 128));
        Matcher imports = Pattern.compile("import ([^;]*);").matcher(bare);
        while (imports.find()) {
            Check.that("import " + imports.group(1), imports.group(1).matches("java\\.util\\.(Arrays|List|ArrayList)"));
        }
        Matcher classes = Pattern.compile("\\b(class|interface|enum|record) [A-Z]").matcher(bare);
        int n = 0;
        while (classes.find()) {
            n++;
        }
        Check.that(n + " classes", n <= 12);
        methods(bare);
        Check.end("RulesTest");
    }

    private static void methods(String bare) {
        int lines = 0;
        boolean inside = false;
        String name = "";
        for (String line : bare.split("\n")) {
            if (line.matches(" {4}(    )?[A-Za-z].*\\) \\{") && !line.contains(" class ")) {
                inside = true;
                lines = 0;
                name = line.trim();
                int open = name.indexOf('(');
                Check.that(name + " takes seven at most", name.substring(open).split(",").length <= 7);
            }
            lines++;
            if (inside && line.matches(" {4}(    )?\\}")) {
                inside = false;
                Check.that(name + " has " + lines + " lines", lines <= 60);
            }
        }
    }
}

import java.lang.reflect.Method;
import java.nio.file.Files;
import java.nio.file.Path;
import java.util.TreeSet;
import java.util.regex.Matcher;
import java.util.regex.Pattern;

/** README.md's example: each answer that stands there is the one that the class gives, and no call is left out. */
public final class ReadmeTest {
    public static void main(String[] args) throws Exception {
        String readme = Files.readString(Path.of(System.getProperty("readme")));
        String example = readme.substring(readme.indexOf("```java"), readme.lastIndexOf("```"));
        TurnedRivers x = new TurnedRivers();
        Check.tell(x, textOf(example));
        TreeSet<String> left = new TreeSet<>();
        for (Method m : TurnedRivers.class.getDeclaredMethods()) {
            if (java.lang.reflect.Modifier.isPublic(m.getModifiers())) {
                left.add(m.getName());
            }
        }
        left.remove("type");
        Check.that("README.md types its text", example.contains("x.type(text.charAt(i), 1);"));
        Matcher line = Pattern.compile("(?m)^x\\.(\\w+)\\(([-0-9, ]*)\\); *// (-?[0-9]+)(:.*)?$").matcher(example);
        int lines = 0;
        while (line.find()) {
            lines++;
            left.remove(line.group(1));
            Check.due("README.md: " + line.group(), ask(x, line.group(1), line.group(2)), Long.parseLong(line.group(3)));
        }
        Check.due("lines that tell an answer", lines, example.lines().filter(l -> l.startsWith("x.")).count());
        Check.that("calls that README.md leaves out: " + left, left.isEmpty());
        Check.end("ReadmeTest");
    }

    /** All that stands in quotes, joined. */
    private static String textOf(String example) {
        StringBuilder text = new StringBuilder();
        Matcher quoted = Pattern.compile("\"([^\"]*)\"").matcher(example);
        while (quoted.find()) {
            text.append(quoted.group(1));
        }
        return text.toString();
    }

    private static long ask(TurnedRivers x, String name, String arguments) throws Exception {
        for (Method m : TurnedRivers.class.getDeclaredMethods()) {
            if (m.getName().equals(name)) {
                String[] told = arguments.isEmpty() ? new String[0] : arguments.split(", ");
                Object[] numbers = new Object[told.length];
                for (int i = 0; i < told.length; i++) {
                    numbers[i] = Integer.valueOf(told[i]);
                }
                return ((Number) m.invoke(x, numbers)).longValue();
            }
        }
        throw new IllegalStateException("no call " + name);
    }
}

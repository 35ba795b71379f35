import java.io.IOException;
import java.lang.reflect.Method;
import java.lang.reflect.Modifier;
import java.nio.file.Files;
import java.nio.file.Path;
import java.util.Set;
import java.util.TreeSet;
import java.util.regex.Matcher;
import java.util.regex.Pattern;

/** What README.md shows is so: each call of its example, its helper, and the calls that it names. */
public final class FigureKneeReadme {
    private static final Path PAGE = Path.of("README.md");
    private static final Path FEEDER = Path.of("src/test/support/Check.java");
    private static final Pattern FEED = Pattern.compile("feed\\(x, \"([^\"]*)\"\\);");
    private static final Pattern CALL = Pattern.compile("x\\.(\\w+)\\(([^)]*)\\); +// (-?\\w+)(:.*)?");
    private static final Check check = new Check();

    public static void main(String[] args) throws Exception {
        String page = Files.readString(PAGE);
        helper(page);
        example(page);
        callsNamed(page);
        linesOfText(page);
        check.end();
    }

    private static void helper(String page) throws IOException {
        check.sentence("README, the helper");
        int from = page.indexOf("static void feed(");
        check.due("it is shown", from >= 0, true);
        String shown = page.substring(Math.max(0, from), page.indexOf("```", Math.max(0, from)));
        check.due("it is the one by which the tests feed", Files.readString(FEEDER).contains(shown.indent(4)), true);
    }

    private static void example(String page) throws Exception {
        check.sentence("README, the example");
        String opening = "```java\nFigureKnee x = new FigureKnee();\n";
        int from = page.indexOf(opening);
        check.due("there is one", from >= 0, true);
        if (from < 0) {
            return;
        }
        FigureKnee x = new FigureKnee();
        int start = from + opening.length();
        for (String line : page.substring(start, page.indexOf("```", start)).split("\n")) {
            Matcher feed = FEED.matcher(line);
            Matcher call = CALL.matcher(line);
            if (feed.matches()) {
                Check.feed(x, feed.group(1));
            } else if (call.matches()) {
                check.due(line, answer(x, call.group(1), call.group(2)), call.group(3));
            } else {
                check.due(line, "no call", "a call with its answer");
            }
        }
    }

    private static String answer(FigureKnee x, String name, String list) throws Exception {
        String[] words = list.isEmpty() ? new String[0] : list.split(", *");
        for (Method method : FigureKnee.class.getMethods()) {
            if (method.getName().equals(name)) {
                Object[] values = new Object[words.length];
                for (int i = 0; i < words.length; i++) {
                    boolean isTruth = method.getParameterTypes()[i] == boolean.class;
                    values[i] = isTruth ? (Object) Boolean.valueOf(words[i]) : (Object) Integer.valueOf(words[i]);
                }
                return String.valueOf(method.invoke(x, values));
            }
        }
        return "no such call";
    }

    private static void callsNamed(String page) {
        check.sentence("README, the calls");
        int from = page.indexOf("### The calls");
        String table = page.substring(Math.max(0, from), page.indexOf("\n- ", Math.max(0, from)));
        Set<String> named = new TreeSet<>();
        Matcher name = Pattern.compile("`(\\w+)`").matcher(table);
        while (name.find()) {
            check.due(name.group() + " is named once", named.add(name.group(1)), true);
        }
        Set<String> due = new TreeSet<>();
        for (Method method : FigureKnee.class.getDeclaredMethods()) {
            if (Modifier.isPublic(method.getModifiers())) {
                due.add(method.getName());
            }
        }
        check.due("calls", named.toString(), due.toString());
    }

    /** The lines of the table, one behind the other, are a text of two pairs. */
    private static void linesOfText(String page) {
        check.sentence("README, the text");
        int from = Math.max(0, page.indexOf("### The text"));
        Matcher row = Pattern.compile("(?m)^\\| `([^`]*)`").matcher(page.substring(from, page.indexOf("### The calls")));
        StringBuilder text = new StringBuilder();
        int rows = 0;
        while (row.find()) {
            String line = row.group(1);
            text.append(rows == 0 ? "" : ";").append(line);
            if (line.startsWith("pair ")) {
                text.append(";").append(line.replace("ann", "bob"));
            }
            rows++;
        }
        check.due("lines", rows, 6);
        FigureKnee x = new FigureKnee();
        check.due(text.toString(), Check.pier(x, text.toString()), 2);
        for (int what = 3; what <= 6; what++) {
            check.due("size(" + what + ")", x.size(what), 1);
        }
    }
}

import java.io.IOException;
import java.nio.charset.StandardCharsets;
import java.nio.file.Files;
import java.nio.file.Path;
import java.util.ArrayList;
import java.util.Arrays;
import java.util.List;
import java.util.Set;
import java.util.TreeSet;
import java.util.regex.Matcher;
import java.util.regex.Pattern;

/** What README.md says is so: its example line by line, its tables, the files and tests that it names. */
public final class ReadmeTest {
    private static final Pattern CALL = Pattern.compile("x\\.(\\w+)\\((.*)\\); +// (-?\\d+): .+");
    private static final Pattern SIGNS = Pattern.compile("String signs = \"([^\"]*)\";");
    /** What fills the example's TEXT; the words of it that are no calls with an answer behind them. */
    private static final List<String> FILLING = List.of("for (int i = 0; i < signs.length(); i++) {",
            "    x.put(0, i, signs.charAt(i));", "}");
    private static final List<String> ASKED = List.of("lay", "at", "mean", "saying", "said", "first", "bundles",
            "judge", "end", "rings", "away");
    private static final Due DUE = new Due();

    private static IronedQuarrels x;
    private static String signs = "";

    public static void main(String[] args) throws IOException {
        List<String> lines = Files.readAllLines(Path.of("README.md"), StandardCharsets.US_ASCII);
        example(lines);
        constants(lines);
        everyCallIsNamed(lines);
        everyClassIsNamed(lines);
        tests(lines);
        DUE.finish("ReadmeTest");
    }

    // ---- the example

    private static void example(List<String> lines) {
        int start = lines.indexOf("```java");
        DUE.holds("an example stands there", start >= 0);
        int calls = 0;
        for (int i = start + 1; start >= 0 && !lines.get(i).equals("```"); i++) {
            calls += runLine(lines.get(i)) ? 1 : 0;
        }
        DUE.holds("the example has calls", calls > 20);
    }

    /** Whether it was a call with its answer behind it. */
    private static boolean runLine(String line) {
        Matcher text = SIGNS.matcher(line);
        Matcher call = CALL.matcher(line);
        if (call.matches()) {
            DUE.is("README.md's " + line, Calls.call(x, call.group(1), arguments(call.group(2))),
                    Long.parseLong(call.group(3)));
            return true;
        }
        if (line.equals("IronedQuarrels x = new IronedQuarrels();")) {
            x = new IronedQuarrels();
        } else if (text.matches()) {
            signs = text.group(1);
        } else if (line.equals(FILLING.get(0))) {
            for (int i = 0; i < signs.length(); i++) {
                x.put(0, i, signs.charAt(i));
            }
        } else {
            DUE.holds("a line that is known, " + line, FILLING.contains(line));
        }
        return false;
    }

    private static int[] arguments(String told) {
        return told.isEmpty() ? new int[0]
                : Arrays.stream(told.replace("signs.length()", String.valueOf(signs.length())).split(", "))
                        .mapToInt(Integer::parseInt).toArray();
    }

    // ---- the tables

    private static void constants(List<String> lines) {
        String[] names = {"BAD", "FULL", "FINDING", "STATE", "SPENT", "NONE"};
        int[] values = {IronedQuarrels.BAD, IronedQuarrels.FULL, IronedQuarrels.FINDING, IronedQuarrels.STATE,
            IronedQuarrels.SPENT, IronedQuarrels.NONE};
        for (int i = 0; i < names.length; i++) {
            DUE.is("README.md on " + names[i], rowsFrom(lines, "| `" + names[i] + "` " + values[i] + " |").size(), 1);
        }
    }

    private static void everyCallIsNamed(List<String> lines) {
        List<String> groups = rowsFrom(lines, "| rows, ", "| deeds ", "| what leans ", "| orders ", "| between ",
                "| colours, ", "| what is told ");
        List<String> named = quoted(groups);
        DUE.is("README.md names each call once", named.size(), Calls.names().size());
        DUE.holds("README.md names the face's calls", new TreeSet<>(named).equals(new TreeSet<>(Calls.names())));
        List<String> asked = quoted(rowsFrom(lines, "| told by `asked()` "));
        DUE.holds("README.md on asked()", asked.subList(1, asked.size()).equals(ASKED));
        List<String> shares = quoted(rowsFrom(lines, "| told by `upper()`"));
        DUE.holds("README.md on upper()", shares.subList(2, shares.size()).equals(List.of("orders", "last", "bill")));
    }

    private static void everyClassIsNamed(List<String> lines) {
        Set<String> inside = new TreeSet<>();
        for (Class<?> one : IronedQuarrels.class.getDeclaredClasses()) {
            inside.add(one.getSimpleName());
            DUE.is("README.md on " + one.getSimpleName(), rowsFrom(lines, "| `" + one.getSimpleName() + "` |").size(), 1);
        }
        int table = lines.indexOf("| class | what it is |");
        DUE.holds("a table of classes stands there", table >= 0);
        for (int i = table + 2; table >= 0 && lines.get(i).startsWith("|"); i++) {
            DUE.holds(lines.get(i) + " is one of " + inside, inside.contains(quoted(lines.subList(i, i + 1)).get(0)));
        }
    }

    /** The lines of tables that begin with one of these words. */
    private static List<String> rowsFrom(List<String> lines, String... heads) {
        List<String> found = new ArrayList<>();
        for (String line : lines) {
            for (String head : heads) {
                if (line.startsWith(head)) {
                    found.add(line);
                }
            }
        }
        return found;
    }

    /** What stands between `..` in lines, without the ( and ) of calls. */
    private static List<String> quoted(List<String> lines) {
        List<String> found = new ArrayList<>();
        for (String line : lines) {
            Matcher word = Pattern.compile("`(\\w+)(?:\\(\\))?`").matcher(line);
            while (word.find()) {
                found.add(word.group(1));
            }
        }
        return found;
    }

    // ---- the tests

    private static void tests(List<String> lines) throws IOException {
        DUE.holds("README.md tells of .ci/run", lines.contains("bash .ci/run"));
        DUE.holds(".ci/run can be run", Files.isExecutable(Path.of(".ci/run")));
        int alone = 0;
        for (String line : lines) {
            if (line.startsWith("java -cp /tmp/classes ")) {
                alone++;
                String name = line.substring(line.lastIndexOf(' ') + 1);
                DUE.holds(name + " is there", Files.exists(Path.of("src/test/java", name + ".java")));
            }
        }
        DUE.is("README.md runs one test alone", alone, 1);
        everyTestIsNoted();
    }

    /** "NOTES.md tells which test looks at what." */
    private static void everyTestIsNoted() throws IOException {
        String notes = Files.readString(Path.of("NOTES.md"), StandardCharsets.US_ASCII);
        String[] files = Path.of("src/test/java").toFile().list();
        DUE.holds("tests are there", files != null && files.length > 0);
        for (String file : files == null ? new String[0] : files) {
            if (file.endsWith("Test.java")) {
                String name = file.substring(0, file.length() - ".java".length());
                DUE.holds("NOTES.md tells of " + name, notes.contains("`" + name + "`"));
            }
        }
    }
}

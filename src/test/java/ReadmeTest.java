import java.io.IOException;
import java.nio.file.Files;
import java.nio.file.Path;
import java.util.List;
import java.util.Set;
import java.util.TreeSet;
import java.util.regex.Matcher;
import java.util.regex.Pattern;

/** README.md: the answers in its example and the versions in its table of items are those of the class. */
public final class ReadmeTest {
    private static final Pattern LINE = Pattern.compile("((?:x\\.\\w+\\([^;]*\\);\\s+)+)// ([^:]+)(:.*)?");
    private static final Pattern CALL = Pattern.compile("x\\.(\\w+)\\(([^;]*)\\);");
    private static final Pattern ITEM = Pattern.compile("\\| `(.+)` \\| (\\d\\.\\d\\.\\d) to (\\d\\.\\d\\.\\d) \\|.*");
    private static final Set<String> CALLS = Set.of("type", "wipe", "read", "meet", "join", "invert", "has", "count",
        "atLeast", "atMost", "stretches", "within");

    private static final SemverRanges x = new SemverRanges();
    private static final Set<String> called = new TreeSet<>();

    public static void main(String[] args) throws IOException {
        List<String> lines = Files.readAllLines(Path.of("README.md"));
        example(lines.subList(lines.indexOf("```java") + 2, lines.size()));
        Checks.due("calls of the face in the example", called.equals(CALLS), true);
        items(lines);
        Checks.end();
    }

    private static void example(List<String> lines) {
        for (String line : lines.subList(0, lines.indexOf("```"))) {
            Matcher parts = LINE.matcher(line);
            boolean matches = parts.matches();
            Checks.due("\"" + line + "\" is calls and their answers", matches, true);
            if (matches) {
                row(parts.group(1), parts.group(2).split(", "));
            }
        }
    }

    private static void row(String calls, String[] answers) {
        Matcher call = CALL.matcher(calls);
        int done = 0;
        while (call.find()) {
            called.add(call.group(1));
            int got = answer(call.group(1), call.group(2));
            if (done < answers.length) {
                Checks.due(call.group(), got, number(answers[done]));
            }
            done++;
        }
        Checks.due("calls in \"" + calls.trim() + "\"", done, answers.length);
    }

    private static int answer(String call, String given) {
        if (call.equals("type")) {
            return x.type(given.charAt(1));
        }
        if (call.equals("wipe")) {
            return x.wipe();
        }
        String[] given3 = (given + ", 0, 0").split(", ");
        int p = Integer.parseInt(given3[0]);
        int q = Integer.parseInt(given3[1]);
        int r = Integer.parseInt(given3[2]);
        switch (call) {
            case "read": return x.read(p);
            case "meet": return x.meet(p, q, r) ? 1 : 0;
            case "join": return x.join(p, q, r) ? 1 : 0;
            case "invert": return x.invert(p, q) ? 1 : 0;
            case "has": return x.has(p, q) ? 1 : 0;
            case "count": return x.count(p);
            case "atLeast": return x.atLeast(p, q);
            case "atMost": return x.atMost(p, q);
            case "stretches": return x.stretches(p);
            default: return x.within(p, q) ? 1 : 0;
        }
    }

    private static int number(String answer) {
        switch (answer) {
            case "true": return 1;
            case "false": return 0;
            case "BAD": return Checks.BAD;
            case "FULL": return Checks.FULL;
            case "NONE": return Checks.NONE;
            default: return Integer.parseInt(answer);
        }
    }

    private static void items(List<String> lines) {
        int begin = lines.indexOf("| item | its versions | in words |") + 2;
        int found = 0;
        for (String line : lines.subList(begin, lines.size())) {
            Matcher row = ITEM.matcher(line);
            if (!row.matches()) {
                break;
            }
            found++;
            // In a table, a bar is written with a backslash before it.
            Checks.dueRead(row.group(1).replace("\\|", "|"), version(row.group(2)), version(row.group(3)));
        }
        Checks.due("items in the table", found, 16);
    }

    private static int version(String written) {
        return Integer.parseInt(written.replace(".", ""));
    }
}

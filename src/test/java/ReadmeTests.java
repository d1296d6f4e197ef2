import java.io.IOException;
import java.lang.reflect.InvocationTargetException;
import java.lang.reflect.Method;
import java.lang.reflect.Modifier;
import java.nio.file.Files;
import java.nio.file.Path;
import java.util.ArrayList;
import java.util.List;
import java.util.regex.Matcher;
import java.util.regex.Pattern;

/** What README.md tells of the class is so: each call of its example, each call of the face, how a text is put there. */
public final class ReadmeTests {
    private static final Checks checks = new Checks();
    private static final Pattern CALL = Pattern.compile("floor\\.(\\w+)\\(([^)]*)\\);\\s*// (-?\\w+).*");
    /** A row of the table of calls: the call, what it answers, the ROW. */
    private static final Pattern IN_TABLE = Pattern.compile("\\| `(\\w+)\\(([^)]*)\\)` \\| (.*) \\|(.*) ?\\|");

    public static void main(String[] args) throws IOException, ReflectiveOperationException {
        Path main = Path.of(args.length > 0 ? args[0] : "src/main/java/VotingFloor.java").toAbsolutePath();
        Path root = main.getParent().getParent().getParent().getParent();
        List<String> readme = Files.readAllLines(root.resolve("README.md"));
        List<List<String>> blocks = blocks(readme, "```java");
        checks.is("blocks of Java", blocks.size(), 2);
        if (blocks.size() == 2) {
            example(blocks.get(0));
            helper(blocks.get(1), Files.readAllLines(root.resolve("src/test/java/Checks.java")));
        }
        table(readme);
        checks.about("README.md, how to run the tests");
        checks.is(".ci/run is told", readme.contains(".ci/run"), true);
        checks.is(".ci/run can be run", Files.isExecutable(root.resolve(".ci/run")), true);
        checks.finish();
    }

    private static List<List<String>> blocks(List<String> lines, String head) {
        List<List<String>> blocks = new ArrayList<>();
        List<String> block = null;
        for (String line : lines) {
            if (line.equals(head)) {
                block = new ArrayList<>();
                blocks.add(block);
            } else if (line.equals("```")) {
                block = null;
            } else if (block != null) {
                block.add(line);
            }
        }
        return blocks;
    }

    private static void example(List<String> lines) throws ReflectiveOperationException {
        checks.about("README.md, the example");
        checks.is("it begins by a new one", lines.get(0).equals("VotingFloor floor = new VotingFloor();"), true);
        VotingFloor floor = new VotingFloor();
        for (String line : lines.subList(1, lines.size())) {
            Matcher call = CALL.matcher(line);
            if (call.matches()) {
                String got = answer(floor, call.group(1), call.group(2));
                checks.is(line + " answered " + got, got.equals(call.group(3)), true);
            } else {
                checks.fail("no call: " + line);
            }
        }
    }

    private static String answer(VotingFloor floor, String name, String arguments) throws ReflectiveOperationException {
        String[] told = arguments.isEmpty() ? new String[0] : arguments.split(", ");
        Class<?>[] types = new Class<?>[told.length];
        Object[] values = new Object[told.length];
        for (int k = 0; k < told.length; k++) {
            types[k] = int.class;
            values[k] = Long.decode(told[k]).intValue();
        }
        try {
            return "" + VotingFloor.class.getMethod(name, types).invoke(floor, values);
        } catch (InvocationTargetException e) {
            return e.getCause().getClass().getSimpleName();
        }
    }

    /** The helper of the page is the one that the tests use. */
    private static void helper(List<String> lines, List<String> source) {
        checks.about("README.md, the helper");
        List<String> trimmed = new ArrayList<>();
        for (String line : source) {
            trimmed.add(line.trim());
        }
        int from = trimmed.indexOf(lines.get(0).trim());
        checks.is("it is in Checks.java", from >= 0, true);
        for (int k = 0; from >= 0 && k < lines.size(); k++) {
            checks.is(lines.get(k), from + k < trimmed.size() && trimmed.get(from + k).equals(lines.get(k).trim()), true);
        }
    }

    private static void table(List<String> lines) {
        checks.about("README.md, the calls");
        List<String> told = new ArrayList<>();
        for (String line : lines) {
            Matcher row = IN_TABLE.matcher(line);
            if (row.matches()) {
                int many = row.group(2).isEmpty() ? 0 : row.group(2).split(", ").length;
                told.add(row.group(1) + " of " + many);
                tellsRow(row.group(1), many, !row.group(4).isBlank());
            }
        }
        int open = 0;
        for (Method method : VotingFloor.class.getDeclaredMethods()) {
            if (Modifier.isPublic(method.getModifiers())) {
                open++;
                String name = method.getName() + " of " + method.getParameterCount();
                checks.is(name + " is told", told.contains(name), true);
            }
        }
        checks.is("calls that are told", told.size(), open);
    }

    /** Whether a call tells a ROW, as the table says; those that do, do so here by some number as all arguments. */
    private static void tellsRow(String name, int many, boolean due) {
        VotingFloor floor = Checks.placed("1+0;9-5", 9, 0);
        boolean tells = false;
        for (int v = 0; v <= 5 && !tells; v++) {
            floor.end(0);
            floor.years(1, 1);
            String before = row(floor);
            StringBuilder arguments = new StringBuilder();
            for (int k = 0; k < many; k++) {
                arguments.append(k == 0 ? "" : ", ").append(v);
            }
            try {
                answer(floor, name, arguments.toString());
            } catch (ReflectiveOperationException e) {
                checks.fail("there is no " + name + " of " + many);
                return;
            }
            tells = !row(floor).equals(before);
        }
        checks.is(name + " tells a ROW", tells, due);
    }

    private static String row(VotingFloor floor) {
        StringBuilder row = new StringBuilder();
        for (int i = 0; i < floor.count(9); i++) {
            row.append(' ').append(floor.row(i));
        }
        return row.toString();
    }
}

import java.lang.reflect.Array;
import java.lang.reflect.Field;
import java.lang.reflect.Modifier;
import java.nio.file.Files;
import java.nio.file.Path;
import java.util.ArrayDeque;
import java.util.ArrayList;
import java.util.Collections;
import java.util.Comparator;
import java.util.IdentityHashMap;
import java.util.List;
import java.util.Map;
import java.util.Set;
import java.util.TreeMap;
import java.util.TreeSet;
import java.util.regex.Matcher;
import java.util.regex.Pattern;
import java.util.stream.Collectors;
import java.util.stream.Stream;

/** What README.md says is so: its example and its commands are run, its tables are held against the document. */
public final class ReadmeTest {
    /** The shared test that README.md runs by itself; what stands under ../shared is not the project's, so it may go. */
    private static final String SHARED = "WindLawyerRuns";
    private static final Due due = new Due();

    public static void main(String[] args) throws Exception {
        String readme = Files.readString(Path.of("README.md"));
        String document = Files.readString(Path.of("../shared/DOC.md"));
        Path out = Files.createTempDirectory("readme");
        try {
            commandsRun(readme, out);
        } finally {
            drop(out);
        }
        callsAreNamed(readme, document);
        refusalsAreTold(readme, document);
        answersOfRefusalsAreTold(readme);
        testsAreNamed(readme);
        objectsAreCounted(readme);
        due.end();
    }

    private static List<String> blocks(String readme, String sort) {
        List<String> found = new ArrayList<>();
        Matcher m = Pattern.compile("(?s)```" + sort + "\n(.*?)```").matcher(readme);
        while (m.find()) {
            found.add(m.group(1));
        }
        return found;
    }

    /** Each command stands as README.md tells it, but for the places that it writes to. */
    private static void commandsRun(String readme, Path out) throws Exception {
        due.sentence("README, the example");
        due.is("examples", blocks(readme, "java").size(), 1);
        due.is("what they print", blocks(readme, "text").size(), 1);
        Path example = out.resolve("Example.java");
        Files.writeString(example, String.join("", blocks(readme, "java")));
        int commands = 0;
        for (String line : String.join("", blocks(readme, "sh")).split("\n")) {
            commands++;
            if (line.contains(SHARED) && !Files.exists(Path.of("../shared/tests/" + SHARED + ".java"))) {
                continue;
            }
            due.sentence("README, the command " + line);
            Map<String, String> places = Map.of("out", out.toString(), "Example.java", example.toString());
            String printed = printedBy(Stream.of(line.split(" ")).map(word -> places.getOrDefault(word, word)).toList());
            if (line.endsWith(" Example")) {
                due.same("what it prints", printed, String.join("", blocks(readme, "text")));
            } else if (line.startsWith("java ")) {
                due.same("what it prints", printed, "all answers are as due\n");
            } else {
                due.same("what it prints", printed, "");
            }
        }
        due.sentence("README");
        due.is("commands", commands, 6);
    }

    private static String printedBy(List<String> command) throws Exception {
        Process process = new ProcessBuilder(command).redirectErrorStream(true).start();
        String printed = new String(process.getInputStream().readAllBytes()).replace("\r\n", "\n");
        due.is("exit code", process.waitFor(), 0);
        return printed;
    }

    private static void drop(Path directory) throws Exception {
        try (Stream<Path> all = Files.walk(directory)) {
            for (Path path : all.sorted(Comparator.reverseOrder()).toList()) {
                Files.delete(path);
            }
        }
    }

    private static void callsAreNamed(String readme, String document) {
        Matcher m = Pattern.compile("    public (?:int|long) (\\w+)\\((.*?)\\);").matcher(document);
        int calls = 0;
        while (m.find()) {
            String call = "`" + m.group(1) + "(" + m.group(2).replaceAll("int (\\w+)", "$1") + ")`";
            due.sentence("README, the call " + call);
            due.is("rows of it", rows(readme, call), 1);
            calls++;
        }
        due.sentence("The public face");
        due.is("calls", calls, 40);
    }

    private static int rows(String readme, String call) {
        return (int) readme.lines().filter(line -> line.startsWith("| " + call + " |")).count();
    }

    /** BAD, NO, FULL stand in the last column of a call where the document's promise of it tells them. */
    private static void refusalsAreTold(String readme, String document) {
        Map<String, Set<String>> told = new TreeMap<>();
        Matcher rows = Pattern.compile("(?m)^\\| `(\\w+)\\(.*?\\)` \\|.*\\|([^|]*)\\|$").matcher(readme);
        while (rows.find()) {
            told.put(rows.group(1), refusals(rows.group(2)));
        }
        Matcher promises = Pattern.compile("(?m)^`(?:int|long) (\\w+)\\(.*?\\)`: (.*)$").matcher(document);
        int calls = 0;
        while (promises.find()) {
            due.sentence("README, the call " + promises.group(1));
            // The promise of status names all three as what it counts.
            Set<String> wanted = promises.group(1).equals("status") ? Set.of("BAD") : refusals(promises.group(2));
            due.same("how it may be refused", "" + told.get(promises.group(1)), "" + wanted);
            calls++;
        }
        due.sentence("Promises 2 to 41");
        due.is("calls", calls, 40);
    }

    private static Set<String> refusals(String text) {
        Set<String> found = new TreeSet<>();
        Matcher m = Pattern.compile("\\b(BAD|NO|FULL)\\b").matcher(text);
        while (m.find()) {
            found.add(m.group());
        }
        return found;
    }

    private static void answersOfRefusalsAreTold(String readme) {
        due.sentence("README, what a refused call answers");
        due.is("`BAD`", rows(readme, "`BAD`, " + WindLawyer.BAD), 1);
        due.is("`NO`", rows(readme, "`NO`, " + WindLawyer.NO), 1);
        due.is("`FULL`", rows(readme, "`FULL`, " + WindLawyer.FULL), 1);
        due.is("`NONE`", readme.contains("`NONE` (" + WindLawyer.NONE + ")") ? 1 : 0, 1);

        WindLawyer x = new WindLawyer();
        due.refused(x, "court(-2)", () -> x.court(-2), -10, Due.BAD);
        due.refused(x, "status(3)", () -> x.status(3), -1, Due.BAD);
        due.quiet(x, "court(0) without a suit", () -> x.court(0), -5);
        due.quiet(x, "read() of no text", x::read, -10);
    }

    private static void testsAreNamed(String readme) throws Exception {
        due.sentence("README, the tests");
        String table = readme.substring(readme.indexOf("| test |"));
        try (Stream<Path> files = Files.list(Path.of("src/test/java"))) {
            Set<String> there = files.map(f -> f.getFileName().toString().replace(".java", ""))
                    .collect(Collectors.toCollection(TreeSet::new));
            Set<String> named = new TreeSet<>();
            Matcher m = Pattern.compile("\\w+Test\\b|`(Due|Twin|Model)`").matcher(table);
            while (m.find()) {
                named.add(m.group().replace("`", ""));
            }
            due.same("the tests named", "" + named, "" + there);
        }
    }

    /** All that a new object holds: no call makes any more, as LanguageTest sees. */
    private static void objectsAreCounted(String readme) throws Exception {
        due.sentence("README, all objects and arrays are made with the WindLawyer");
        Set<Object> found = Collections.newSetFromMap(new IdentityHashMap<>());
        ArrayDeque<Object> open = new ArrayDeque<>(List.of(new WindLawyer()));
        while (!open.isEmpty()) {
            Object one = open.pop();
            if (!found.add(one)) {
                continue;
            }
            if (one.getClass().isArray()) {
                due.is("an array of numbers", Array.getLength(one) > 0 && Array.get(one, 0) instanceof Integer ? 1 : 0, 1);
                continue;
            }
            for (Field field : one.getClass().getDeclaredFields()) {
                if (!Modifier.isStatic(field.getModifiers()) && !field.getType().isPrimitive()) {
                    field.setAccessible(true);
                    open.push(field.get(one));
                }
            }
        }
        due.is("\"(" + found.size() + " of them, with\" told", readme.contains("(" + found.size() + " of them, with") ? 1 : 0, 1);
    }
}

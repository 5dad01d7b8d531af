import java.io.IOException;
import java.lang.reflect.Method;
import java.lang.reflect.Modifier;
import java.nio.file.Files;
import java.nio.file.Path;
import java.util.List;
import java.util.Set;
import java.util.TreeSet;
import java.util.regex.Matcher;
import java.util.regex.Pattern;
import java.util.stream.Collectors;
import java.util.stream.Stream;

/** What README.md tells of use is so: its calls and answers, its findings and its tests; takes the checkout's path. */
public final class ReadmeTest {
    private static final Pattern BLOCK = Pattern.compile("```java\n(.*?)```", Pattern.DOTALL);
    private static final Pattern CALL = Pattern.compile("camp\\.((\\w+)\\([^)]*\\)); +// (-?\\d+)(:.*)?");
    private static final String NEW = "GroundTents camp = new GroundTents();";
    private static final List<String> FINDINGS = List.of("BEYOND", "FULL", "KIND", "NONE", "STATE", "MISSING", "SIZE");

    public static void main(String[] args) throws IOException {
        Path root = Path.of(args[0]);
        String page = Files.readString(root.resolve("README.md"));
        due("all calls of the face are told", face(), calls(page));
        findings(page);
        sampleText(page);
        due("all tests are told", tests(root), words(page, "\\b[A-Z]\\w+Test\\b"));
        Check.end();
    }

    /** Runs each block on a new object: the names of the calls in them. */
    private static Set<String> calls(String page) {
        Set<String> told = new TreeSet<>();
        Matcher block = BLOCK.matcher(page);
        while (block.find()) {
            String[] lines = block.group(1).split("\n");
            Check.due("README: a block begins with '" + lines[0] + "'", 1, lines[0].equals(NEW) ? 1 : 0);
            GroundTents camp = new GroundTents();
            for (int i = 1; i < lines.length; i++) {
                Matcher call = CALL.matcher(lines[i]);
                if (call.matches()) {
                    told.add(call.group(2));
                    Edge.run("README", camp, call.group(1) + " = " + call.group(3));
                    findingBehind(call.group(3), call.group(4));
                } else {
                    Check.due("README: no call with its answer: '" + lines[i] + "'", 1, 0);
                }
            }
        }
        return told;
    }

    /** A finding is told by its name, too. */
    private static void findingBehind(String answer, String words) {
        int which = -1000001 - Integer.parseInt(answer);
        if (which >= 0 && which < FINDINGS.size()) {
            boolean named = words != null && words.startsWith(": " + FINDINGS.get(which));
            Check.due("README: " + answer + words + " is " + FINDINGS.get(which), 1, named ? 1 : 0);
        }
    }

    private static void findings(String page) {
        Set<String> want = new TreeSet<>();
        for (int which = 0; which < FINDINGS.size(); which++) {
            want.add((-1000001 - which) + " " + FINDINGS.get(which));
        }
        due("the findings", want, words(page.replace('\n', ' '), "-\\d{7} [A-Z]+"));
    }

    private static void sampleText(String page) {
        Matcher text = Pattern.compile("such as `([^`]*)`").matcher(page);
        String told = text.find() ? text.group(1) : "none";
        Check.due("README: the text " + told, told.split(";").length, Check.read(new GroundTents(), told));
    }

    private static Set<String> face() {
        return Stream.of(GroundTents.class.getDeclaredMethods()).filter(m -> Modifier.isPublic(m.getModifiers()))
            .map(Method::getName).collect(Collectors.toCollection(TreeSet::new));
    }

    private static Set<String> tests(Path root) throws IOException {
        try (Stream<Path> files = Files.list(root.resolve("src/test/java"))) {
            return files.map(f -> f.getFileName().toString()).filter(f -> f.endsWith("Test.java"))
                .map(f -> f.substring(0, f.length() - 5)).collect(Collectors.toCollection(TreeSet::new));
        }
    }

    private static Set<String> words(String page, String pattern) {
        return Pattern.compile(pattern).matcher(page).results().map(m -> m.group())
            .collect(Collectors.toCollection(TreeSet::new));
    }

    private static void due(String what, Set<String> want, Set<String> got) {
        Check.due("README: " + what + ": " + got + ", due are " + want, 1, want.equals(got) ? 1 : 0);
    }
}

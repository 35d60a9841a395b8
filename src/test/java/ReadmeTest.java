import java.io.IOException;
import java.lang.reflect.Method;
import java.lang.reflect.Modifier;
import java.nio.file.Files;
import java.nio.file.Path;
import java.util.ArrayList;
import java.util.List;
import java.util.Set;
import java.util.TreeSet;
import java.util.regex.Matcher;
import java.util.regex.Pattern;
import java.util.stream.Stream;

/** That README.md says how to use the class and how to run its tests, and that it goes so. */
public final class ReadmeTest {
    private static final Due CHECK = new Due();
    private static final Path TESTS = Path.of("src/test/java");

    public static void main(String[] args) throws Exception {
        String page = Files.readString(Path.of("README.md"));
        use(page);
        calls(page);
        commands(page);
        list(page);
        CHECK.end();
    }

    /** The page's blocks of one language. */
    private static List<String> blocks(String page, String language) {
        List<String> blocks = new ArrayList<>();
        Matcher m = Pattern.compile("```" + language + "\n(.*?)```", Pattern.DOTALL).matcher(page);
        while (m.find()) {
            blocks.add(m.group(1));
        }
        return blocks;
    }

    private static void use(String page) throws Exception {
        CHECK.sentence("README.md says how to use the class: its program prints what it says");
        List<String> programs = blocks(page, "java");
        CHECK.due("programs", programs.size(), 1);
        Checkout copy = new Checkout();
        copy.copy("src/main/java/KernelText.java");
        copy.write("Use.java", programs.get(0));
        CHECK.due("javac", copy.run("javac -d . src/main/java/KernelText.java Use.java"), 0);
        CHECK.due("java", copy.run("java -cp . Use"), 0);
        StringBuilder told = new StringBuilder();
        Matcher m = Pattern.compile("println\\(.*// (.*)").matcher(programs.get(0));
        while (m.find()) {
            told.append(m.group(1)).append('\n');
        }
        CHECK.due("what it prints", copy.printed(), told.toString());
        CHECK.due("lines", told.length() > 0, true);
        copy.remove();
    }

    private static void calls(String page) {
        CHECK.sentence("README.md says how to use the class: every call of the face");
        for (Method method : KernelText.class.getDeclaredMethods()) {
            boolean open = Modifier.isPublic(method.getModifiers());
            CHECK.due(method.getName(), page.contains("| `" + method.getName() + "("), open);
        }
    }

    private static void commands(String page) throws Exception {
        CHECK.sentence("README.md says how to run its tests: its commands run them");
        List<String> commands = blocks(page, "sh");
        CHECK.due("for one of the project, and one of those that are given", commands.size(), 2);
        Checkout copy = new Checkout();
        copy.copy("README.md", "src/main/java", "src/test/java", "../shared/tests");
        for (String command : commands) {
            CHECK.due(command, copy.run("set -e\n" + command), 0);
            CHECK.due(command + " prints", copy.printed().matches("(?s).*( 0 not as due|are as due)\n"), true);
        }
        copy.remove();

        CHECK.sentence("README.md says how to run its tests: all of them by .ci/run");
        CHECK.due("the page names it", page.contains("\n    .ci/run\n"), true);
        CHECK.due("it can be run so", Files.isExecutable(Path.of(".ci/run")), true);
    }

    private static void list(String page) throws IOException {
        CHECK.sentence("README.md names every test of the project, and none that is not there");
        Set<String> named = new TreeSet<>();
        Matcher m = Pattern.compile("`(\\w+Test)`").matcher(page);
        while (m.find()) {
            named.add(m.group(1));
        }
        Set<String> there = new TreeSet<>();
        try (Stream<Path> files = Files.list(TESTS)) {
            files.map(file -> file.getFileName().toString()).filter(name -> name.endsWith("Test.java"))
                .forEach(name -> there.add(name.substring(0, name.length() - 5)));
        }
        CHECK.due("tests", named.toString(), there.toString());
        CHECK.due("this one too", named.contains("ReadmeTest"), true);
    }
}

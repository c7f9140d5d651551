import java.io.IOException;
import java.lang.reflect.InvocationTargetException;
import java.lang.reflect.Method;
import java.lang.reflect.Modifier;
import java.net.URL;
import java.net.URLClassLoader;
import java.nio.file.Files;
import java.nio.file.Path;
import java.util.ArrayList;
import java.util.List;
import java.util.Set;
import java.util.TreeSet;
import java.util.regex.MatchResult;
import java.util.regex.Matcher;
import java.util.regex.Pattern;
import java.util.stream.Collectors;
import java.util.stream.Stream;
import javax.tools.ToolProvider;

/** README.md: its examples answer what stands behind them, its commands work, and it tells every method. */
public final class ReadmeTest {
    private static final Pattern ANSWERS = Pattern.compile("(.+?); +// -> ([\\w.-]+).*");
    private static final Pattern THROWS = Pattern.compile("(.+?); +// throws (\\w+).*");

    private ReadmeTest() {
    }

    public static void main(String[] args) throws Exception {
        Check check = new Check("readme");
        String readme = Files.readString(Path.of("README.md"));
        methods(check.about("'what each method is for, what it answers and what it throws'"), readme);
        examples(check.about("the examples"), blocks(readme, "java"));
        commands(check.about("the commands"), blocks(readme, "sh"));
        tests(check.about("the list of tests"), readme);
        check.end();
    }

    private static List<String> blocks(String readme, String language) {
        List<String> blocks = new ArrayList<>();
        Matcher found = Pattern.compile("```" + language + "\n(.*?)```", Pattern.DOTALL).matcher(readme);
        while (found.find()) {
            blocks.add(found.group(1));
        }
        return blocks;
    }

    /** Each method has a part of its own under its signature, which names just the exceptions that it throws. */
    private static void methods(Check check, String readme) {
        for (Method method : PatienceTable.class.getDeclaredMethods()) {
            if (!Modifier.isPublic(method.getModifiers())) {
                continue;
            }
            Matcher part = Pattern.compile("\n#### `" + signatureOf(method) + "`\n(.*?)(?=\n##|$)", Pattern.DOTALL)
                    .matcher(readme);
            boolean told = part.find();
            check.that(method + " is not told", told);
            if (told) {
                compareExceptions(check, method, part.group(1));
            }
        }
    }

    private static String signatureOf(Method method) {
        String parameters = Stream.of(method.getParameterTypes()).map(type -> type.getName() + " \\w+")
                .collect(Collectors.joining(", "));
        return method.getReturnType().getName() + " " + method.getName() + "\\(" + parameters + "\\)";
    }

    private static void compareExceptions(Check check, Method method, String part) {
        List<String> due = Stream.of(method.getExceptionTypes()).map(Class::getSimpleName).toList();
        List<String> told = Pattern.compile("\\w+Exception").matcher(part).results().map(MatchResult::group).toList();
        check.that(method.getName() + " is told to throw " + told + ", due is " + due, told.equals(due));
    }

    /** Makes a class of the examples, whose method wrong() tells each call with another answer. */
    private static void examples(Check check, List<String> blocks) throws Exception {
        check.that("there are some", !blocks.isEmpty());
        StringBuilder source = new StringBuilder("public class Examples {\n")
                .append("public static java.util.List<String> wrong() {\n")
                .append("java.util.List<String> wrong = new java.util.ArrayList<>();\n");
        int answers = 0;
        for (String block : blocks) {
            source.append("{\n");
            for (String line : block.split("\n")) {
                String checked = checked(line);
                answers += checked.equals(line) ? 0 : 1;
                source.append(checked).append('\n');
            }
            source.append("}\n");
        }
        source.append("return wrong;\n}\n}\n");
        check.that("answers told: " + answers, answers > 20);
        for (String wrong : wrongOf(source.toString())) {
            check.that(wrong, false);
        }
    }

    private static String checked(String line) {
        Matcher answers = ANSWERS.matcher(line);
        if (answers.matches()) {
            return "{ Object got = " + answers.group(1) + "; Object due = " + answers.group(2)
                    + "; if (!got.equals(due)) { wrong.add(\"" + answers.group(1).replace("\"", "\\\"")
                    + " answers \" + got); } }";
        }
        Matcher refused = THROWS.matcher(line);
        if (refused.matches()) {
            return "try { " + refused.group(1) + "; wrong.add(\"" + refused.group(1) + " does not throw\"); } catch ("
                    + refused.group(2) + " due) { }";
        }
        return line;
    }

    private static List<String> wrongOf(String source) throws Exception {
        Path folder = Files.createTempDirectory("readme");
        Path file = folder.resolve("Examples.java");
        Files.writeString(file, source);
        int compiled = ToolProvider.getSystemJavaCompiler().run(null, null, null,
                "-cp", System.getProperty("java.class.path"), "-d", folder.toString(), file.toString());
        if (compiled != 0) {
            return List.of("they do not compile");
        }
        try (URLClassLoader loader = new URLClassLoader(new URL[] {folder.toUri().toURL()})) {
            Object wrong = loader.loadClass("Examples").getMethod("wrong").invoke(null);
            return ((List<?>) wrong).stream().map(String::valueOf).toList();
        } catch (InvocationTargetException e) {
            return List.of("a call throws " + e.getCause());
        } finally {
            remove(folder);
        }
    }

    private static void remove(Path folder) throws IOException {
        try (Stream<Path> files = Files.list(folder)) {
            for (Path file : files.toList()) {
                Files.delete(file);
            }
        }
        Files.delete(folder);
    }

    /** All but .ci/run, which runs this test. */
    private static void commands(Check check, List<String> blocks) throws Exception {
        check.that(".ci/run stands alone", blocks.contains(".ci/run\n"));
        check.that(".ci/run can be executed", Files.isExecutable(Path.of(".ci/run")));
        for (String block : blocks) {
            if (!block.contains(".ci/run")) {
                Process process = new ProcessBuilder("bash", "-e", "-c", block).redirectErrorStream(true).start();
                String printed = new String(process.getInputStream().readAllBytes());
                check.that(block + "printed " + printed, process.waitFor() == 0);
            }
        }
    }

    private static void tests(Check check, String readme) throws IOException {
        Set<String> told = new TreeSet<>();
        Pattern.compile("`(\\w+Test)`").matcher(readme).results().forEach(found -> told.add(found.group(1)));
        Set<String> there = new TreeSet<>();
        try (Stream<Path> files = Files.list(Path.of("src/test/java"))) {
            files.map(file -> file.getFileName().toString()).filter(name -> name.endsWith("Test.java"))
                    .forEach(name -> there.add(name.replace(".java", "")));
        }
        check.that("told are " + told + ", there are " + there, told.equals(there));
    }
}

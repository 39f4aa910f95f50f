import java.io.IOException;
import java.net.URL;
import java.net.URLClassLoader;
import java.nio.file.Files;
import java.nio.file.Path;
import java.util.ArrayList;
import java.util.List;
import java.util.function.Supplier;
import java.util.regex.Matcher;
import java.util.regex.Pattern;
import javax.tools.ToolProvider;

/** What README.md says is so: its code runs as its remarks tell, and no call of the document is left out. */
public final class ReadmeTest {
    private static final Pattern ASKED = Pattern.compile("(\\w+\\.\\w+\\(.*\\));\\s+// (.+)");
    private static final Pattern CALL_HEADING = Pattern.compile("### (\\d+)\\. `(.+)`");
    private static final Pattern PROMISE_HEADING = Pattern.compile("## Promise (\\d+): .*");
    private static final Pattern PROMISE_CALL = Pattern.compile("`([^`]+)`: .*");
    private static final Pattern NAMED_EXCEPTION = Pattern.compile("(\\w+Exception)");
    private static final Checks CHECKS = new Checks();

    public static void main(String[] args) throws Exception {
        List<String> readme = Files.readAllLines(Path.of("README.md"));
        answersAreAsTold(readme);
        callsAreTheDocuments(readme, Files.readAllLines(Path.of("../shared/DOC.md")));
        eachCallIsShown(readme);
        eachTestIsNamed(String.join("\n", readme));
        CHECKS.end();
    }

    private static void answersAreAsTold(List<String> readme) throws Exception {
        List<String> code = code(readme);
        List<?> answers = run(code);
        int at = 0;
        for (String row : code) {
            Matcher asked = ASKED.matcher(row);
            if (asked.matches()) {
                CHECKS.due("README: " + asked.group(1), String.valueOf(answers.get(at)), asked.group(2));
                at++;
            }
        }
    }

    /** The rows of all java blocks, which are one run. */
    private static List<String> code(List<String> readme) {
        List<String> code = new ArrayList<>();
        boolean inside = false;
        for (String row : readme) {
            if (row.startsWith("```")) {
                inside = row.equals("```java");
            } else if (inside) {
                code.add(row);
            }
        }
        return code;
    }

    private static List<?> run(List<String> code) throws Exception {
        Path folder = Files.createTempDirectory("readme");
        Path source = folder.resolve("ReadmeRun.java");
        Path compiled = folder.resolve("ReadmeRun.class");
        try {
            Files.write(source, program(code));
            int failed = ToolProvider.getSystemJavaCompiler().run(null, null, null,
                "-cp", System.getProperty("java.class.path"), "-d", folder.toString(), source.toString());
            if (failed != 0) {
                throw new IllegalStateException("the code in README.md does not compile");
            }
            return answers(folder);
        } finally {
            Files.deleteIfExists(source);
            Files.deleteIfExists(compiled);
            Files.deleteIfExists(folder);
        }
    }

    private static List<?> answers(Path folder) throws IOException, ReflectiveOperationException {
        try (URLClassLoader loader = new URLClassLoader(new URL[] {folder.toUri().toURL()})) {
            Object made = loader.loadClass("ReadmeRun").getConstructor().newInstance();
            return (List<?>) ((Supplier<?>) made).get();
        }
    }

    private static List<String> program(List<String> code) {
        List<String> program = new ArrayList<>();
        program.add("public final class ReadmeRun implements java.util.function.Supplier<java.util.List<Object>> {");
        program.add("public java.util.List<Object> get() {");
        program.add("java.util.List<Object> answers = new java.util.ArrayList<>();");
        for (String row : code) {
            Matcher asked = ASKED.matcher(row);
            program.add(asked.matches() ? "try { answers.add(" + asked.group(1) + "); } catch (RuntimeException e) {"
                + " answers.add(\"throws \" + e.getClass().getSimpleName()); }" : row);
        }
        program.add("return answers; } }");
        return program;
    }

    private static void callsAreTheDocuments(List<String> readme, List<String> document) {
        List<String> promised = new ArrayList<>();
        String number = "";
        for (String row : document) {
            Matcher heading = PROMISE_HEADING.matcher(row);
            Matcher call = PROMISE_CALL.matcher(row);
            if (heading.matches()) {
                number = heading.group(1);
            } else if (call.matches()) {
                promised.add(number + ". " + call.group(1));
            }
        }
        CHECKS.due("the document's calls", promised.size(), 13);
        List<String> told = new ArrayList<>();
        for (String row : readme) {
            Matcher heading = CALL_HEADING.matcher(row);
            if (heading.matches()) {
                told.add(heading.group(1) + ". " + heading.group(2));
            }
        }
        CHECKS.due("README: calls", told, promised);
    }

    /** Under a call's heading its code makes that call, and shows every exception that it can throw. */
    private static void eachCallIsShown(List<String> readme) {
        for (int from = 0; from < readme.size(); from++) {
            Matcher heading = CALL_HEADING.matcher(readme.get(from));
            if (heading.matches()) {
                shown(heading.group(2), String.join("\n", code(section(readme, from))));
            }
        }
    }

    private static List<String> section(List<String> readme, int from) {
        int to = from + 1;
        while (to < readme.size() && !readme.get(to).startsWith("##")) {
            to++;
        }
        return readme.subList(from, to);
    }

    private static void shown(String call, String code) {
        String name = call.replaceAll("\\(.*", "").replaceAll(".* ", "");
        String made = name.equals("VoiceForge") ? "new VoiceForge\\(\\);" : "\\." + name + "\\(.*\\);\\s+// (?!throws)";
        CHECKS.due("README: an answer of " + name, found(made, code), true);
        Matcher exception = NAMED_EXCEPTION.matcher(call);
        while (exception.find()) {
            String thrown = "\\." + name + "\\(.*// throws " + exception.group(1);
            CHECKS.due("README: " + exception.group(1) + " of " + name, found(thrown, code), true);
        }
    }

    private static boolean found(String pattern, String text) {
        return Pattern.compile(pattern).matcher(text).find();
    }

    private static void eachTestIsNamed(String readme) throws IOException {
        try (var tests = Files.newDirectoryStream(Path.of("src/test/java"), "*Test.java")) {
            for (Path test : tests) {
                String name = test.getFileName().toString().replace(".java", "");
                CHECKS.due("README: names " + name, readme.contains("`" + name + "`"), true);
            }
        }
    }
}

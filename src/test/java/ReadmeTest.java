import java.io.IOException;
import java.net.URL;
import java.net.URLClassLoader;
import java.nio.file.Files;
import java.nio.file.Path;
import java.util.ArrayList;
import java.util.Comparator;
import java.util.List;
import java.util.TreeSet;
import java.util.regex.Matcher;
import java.util.regex.Pattern;
import java.util.stream.Stream;
import javax.tools.ToolProvider;

/** README.md's calls are made, one after the other, and answer what it says; it leaves out no method and no test. */
public final class ReadmeTest {
    private static final Checks checks = new Checks("ReadmeTest");
    private static final Pattern ANSWERED = Pattern.compile("^(.*);\\s*// -> (-?\\w+).*$");
    private static final String REFUSAL = "NoSuchElementException";

    private ReadmeTest() {
    }

    public static void main(String[] args) throws Exception {
        List<String> readme = Files.readAllLines(Path.of("README.md"));
        StringBuilder members = new StringBuilder();
        StringBuilder calls = new StringBuilder();
        for (List<String> block : blocks(readme)) {
            boolean helps = !block.isEmpty() && block.get(0).startsWith("static ");
            for (String line : block) {
                (helps ? members : calls).append(helps ? line : checked(line)).append('\n');
            }
        }
        everyMethod(calls.toString() + members);
        everyTest(String.join("\n", readme));
        run("public final class Readme {\n" + members + "public static void main(String[] args) {\n" + calls + "}\n}\n");
        checks.end();
    }

    private static List<List<String>> blocks(List<String> readme) {
        List<List<String>> blocks = new ArrayList<>();
        boolean inside = false;
        for (String line : readme) {
            if (line.startsWith("```")) {
                inside = line.equals("```java");
                if (inside) {
                    blocks.add(new ArrayList<>());
                }
            } else if (inside) {
                blocks.get(blocks.size() - 1).add(line);
            }
        }
        return blocks;
    }

    /** A line that tells an answer becomes a comparison with it. */
    private static String checked(String line) {
        Matcher answered = ANSWERED.matcher(line);
        if (!answered.matches()) {
            return line;
        }
        String call = answered.group(1).trim();
        String due = answered.group(2);
        String name = "\"" + call.replace("\"", "'") + "\"";
        if (!due.equals(REFUSAL)) {
            return "ReadmeTest.due(" + name + ", String.valueOf(" + call + "), \"" + due + "\");";
        }
        return "try { ReadmeTest.due(" + name + ", String.valueOf(" + call + "), \"" + due + "\"); }"
            + " catch (java.util." + REFUSAL + " e) { ReadmeTest.due(" + name + ", \"" + due + "\", \"" + due + "\"); }";
    }

    /** Public, as the program that is made of README.md is loaded apart. */
    public static void due(String call, String got, String due) {
        checks.yes("README.md: " + call + " answered " + got + ", due is " + due, got.equals(due));
    }

    private static void everyMethod(String code) {
        for (java.lang.reflect.Method method : VillageShow.class.getMethods()) {
            if (method.getDeclaringClass() == VillageShow.class) {
                checks.yes("README.md calls " + method.getName(), code.contains("show." + method.getName() + "("));
            }
        }
    }

    private static void everyTest(String readme) throws IOException {
        TreeSet<String> names = new TreeSet<>();
        try (Stream<Path> files = Files.list(Path.of("src/test/java"))) {
            files.map(file -> file.getFileName().toString()).filter(name -> name.endsWith("Test.java"))
                .forEach(name -> names.add(name.replace(".java", "")));
        }
        for (String name : names) {
            checks.yes("README.md names " + name, readme.contains("`" + name + "`"));
        }
        checks.yes("README.md tells how to run all tests", readme.contains("\n    .ci/run\n"));
    }

    private static void run(String program) throws Exception {
        Path folder = Files.createTempDirectory("readme");
        try {
            Path source = Files.writeString(folder.resolve("Readme.java"), program);
            int fault = ToolProvider.getSystemJavaCompiler().run(null, System.out, System.out, "-d", folder.toString(),
                "-cp", System.getProperty("java.class.path"), source.toString());
            checks.due("compiling README.md's calls", fault, 0);
            if (fault == 0) {
                try (URLClassLoader loader = new URLClassLoader(new URL[] {folder.toUri().toURL()})) {
                    loader.loadClass("Readme").getMethod("main", String[].class).invoke(null, (Object) new String[0]);
                }
            }
        } finally {
            try (Stream<Path> files = Files.walk(folder)) {
                for (Path file : files.sorted(Comparator.reverseOrder()).toList()) {
                    Files.delete(file);
                }
            }
        }
    }
}

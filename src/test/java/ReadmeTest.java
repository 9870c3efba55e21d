import java.io.File;
import java.lang.reflect.Method;
import java.lang.reflect.Modifier;
import java.net.URL;
import java.net.URLClassLoader;
import java.nio.file.Files;
import java.nio.file.Path;
import java.util.regex.Matcher;
import java.util.regex.Pattern;
import java.util.stream.Stream;
import javax.tools.ToolProvider;

/** README.md says how the class is used and how its tests are run, and what it shows is so. */
public final class ReadmeTest {
    private static String readme = "";

    private static void says(String words) {
        Probe.due("README.md says " + words, readme.contains(words), true);
    }

    private static String firstGroup(String pattern) {
        Matcher m = Pattern.compile(pattern).matcher(readme);
        return m.find() ? m.group(1) : "nothing";
    }

    /** All that README.md shows of Java, in one row. */
    private static String examples() {
        StringBuilder all = new StringBuilder();
        Matcher m = Pattern.compile("(?s)```java\n(.*?)```").matcher(readme);
        while (m.find()) {
            all.append(m.group(1));
        }
        return all.toString();
    }

    /** Runs the examples: what their variables are in the end. */
    private static String runExamples(Path place) throws Exception {
        Path source = place.resolve("ReadmeExample.java");
        Files.writeString(source, "public final class ReadmeExample { public static String run() {\n" + examples()
                + "return n + \" \" + shown + \" \" + signs + \" \" + Probe.output(x, signs) + \" \" + place; } }\n");
        String path = System.getProperty("java.class.path");
        int failed = ToolProvider.getSystemJavaCompiler().run(null, null, null, "-cp", path, "-d", place.toString(),
                source.toString());
        Probe.due("the examples are Java", failed, 0);
        if (failed != 0) {
            return "nothing";
        }
        // Probe is package-visible: one loader must bring both.
        URL[] both = {place.toUri().toURL(), new File(path).toURI().toURL()};
        try (URLClassLoader loader = new URLClassLoader(both, ClassLoader.getPlatformClassLoader())) {
            return "" + loader.loadClass("ReadmeExample").getMethod("run").invoke(null);
        }
    }

    private static void testExamples() throws Exception {
        Path place = Files.createTempDirectory("readme");
        try {
            String want = firstGroup("x\\.show\\(\\); +// (\\d+)") + " " + firstGroup("x\\.output\\(k\\)\\); +// (.*)") + " "
                    + firstGroup("x\\.showText\\(\\); +// (\\d+)") + " " + firstGroup("x\\.showText\\(\\); +// \\d+: (.*)")
                    + " " + firstGroup("x\\.illAt\\(\\); +// (\\d+)");
            Probe.due("the answers that README.md tells", want, "12 1,234,567.88 6 To All 3");
            Probe.due("the examples answer", runExamples(place), want);
        } finally {
            try (Stream<Path> files = Files.list(place)) {
                for (Path file : files.toList()) {
                    Files.delete(file);
                }
            }
            Files.delete(place);
        }
    }

    private static void testUse() {
        says("new NumberFormats()");
        says("NONE");
        for (Method m : NumberFormats.class.getDeclaredMethods()) {
            if (Modifier.isPublic(m.getModifiers())) {
                says("`" + m.getName() + "(");
            }
        }
        says("IllegalArgumentException");
        says("IllegalStateException");
    }

    private static void testRunning() {
        says("How to run its tests");
        says("    .ci/run\n");
        Probe.due(".ci/run can be run", new File(".ci/run").canExecute(), true);
        for (String name : new File("src/test/java").list()) {
            String told = name.replace(".java", "").replaceAll("^Promise\\d\\d.*Test$", "PromiseNN...Test")
                    .replaceAll("^EdgesOf.*Test$", "EdgesOf...Test");
            says("`" + told + (told.equals("Probe") ? ".java`" : "`"));
        }
    }

    /** Classes that README.md tells of must be there. */
    private static void testBuild() {
        for (Class<?> inside : NumberFormats.class.getDeclaredClasses()) {
            says("`" + inside.getSimpleName() + "`");
        }
        Matcher m = Pattern.compile("`([A-Z][A-Za-z]+)`").matcher(readme);
        while (m.find()) {
            String name = m.group(1);
            boolean test = new File("src/test/java/" + name + ".java").exists();
            boolean inside = Stream.of(NumberFormats.class.getDeclaredClasses())
                    .anyMatch(c -> c.getSimpleName().equals(name));
            Probe.due("README.md tells of " + name, test || inside || name.equals("NONE"), true);
        }
    }

    public static void main(String[] args) throws Exception {
        readme = Files.readString(Path.of("README.md"));
        testUse();
        testExamples();
        testRunning();
        testBuild();
        Probe.finish();
    }
}

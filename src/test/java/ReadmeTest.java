import java.io.IOException;
import java.lang.reflect.Method;
import java.lang.reflect.Modifier;
import java.net.URL;
import java.net.URLClassLoader;
import java.nio.charset.StandardCharsets;
import java.nio.file.Files;
import java.nio.file.Path;
import java.util.ArrayList;
import java.util.Comparator;
import java.util.List;
import java.util.TreeSet;
import java.util.regex.Matcher;
import java.util.regex.Pattern;
import java.util.stream.Stream;
import javax.tools.ToolProvider;

/** README.md: the calls that it shows compile and answer as it says; the ways that it gives to run the tests run them. */
public final class ReadmeTest {
    private static final Pattern ANSWERED = Pattern.compile("(x\\.(\\w+)\\(.*\\)); +// ([^ :]+)(: .*)?");
    private static final TreeSet<String> shown = new TreeSet<>();

    public interface Asked {
        Object answer();
    }

    private record Ran(int exit, String out) {
    }

    public static void main(String[] args) throws Exception {
        String page = Files.readString(Path.of("README.md"));
        Path room = Files.createTempDirectory("readme");
        try {
            useOf(blocks(page, "java"), room);
            List<String> ways = blocks(page, "sh");
            Kit.due("README: two ways to run tests", ways.size(), 2);
            wayOfAll(ways.get(0), room);
            wayOfOne(ways.get(1), room);
            everyTestTold(page);
        } finally {
            remove(room);
        }
        Kit.finish("ReadmeTest");
    }

    private static List<String> blocks(String page, String language) {
        List<String> found = new ArrayList<>();
        Matcher m = Pattern.compile("(?ms)^```" + language + "\n(.*?)^```$").matcher(page);
        while (m.find()) {
            found.add(m.group(1));
        }
        return found;
    }

    /** One class of all the blocks: methods as they stand, calls in one run, each held against the answer behind it. */
    private static void useOf(List<String> blocks, Path room) throws Exception {
        StringBuilder methods = new StringBuilder();
        StringBuilder run = new StringBuilder();
        for (String block : blocks) {
            if (block.startsWith("static ")) {
                methods.append(block);
            } else {
                block.lines().forEach(line -> run.append(heldToAnswer(line)).append('\n'));
            }
        }
        Path source = room.resolve("ReadmeUse.java");
        Files.writeString(source, "public final class ReadmeUse {\n" + methods + "public static void run() {\n" + run + "}\n}\n");
        int compiled = ToolProvider.getSystemJavaCompiler().run(null, null, null, "--release", "17",
            "-cp", System.getProperty("java.class.path"), "-d", room.toString(), source.toString());
        Kit.due("README: its calls compile", compiled, 0);
        if (compiled == 0) {
            try (URLClassLoader loader = new URLClassLoader(new URL[] {room.toUri().toURL()}, ReadmeTest.class.getClassLoader())) {
                loader.loadClass("ReadmeUse").getMethod("run").invoke(null);
            }
        }
        Kit.due("README: every call is shown " + shown, shown.equals(face()), true);
    }

    private static String heldToAnswer(String line) {
        if (!line.startsWith("x.")) {
            return line;
        }
        Matcher m = ANSWERED.matcher(line);
        Kit.due("README: an answer stands behind " + line, m.matches(), true);
        if (!m.matches()) {
            return line;
        }
        shown.add(m.group(2));
        return "ReadmeTest.due(\"" + m.group(1) + "\", \"" + m.group(3) + "\", () -> " + m.group(1) + ");";
    }

    public static void due(String call, String want, Asked asked) {
        String got;
        try {
            got = String.valueOf(asked.answer());
        } catch (RuntimeException e) {
            got = e.getClass().getSimpleName();
        }
        String told = want.equals("NONE") ? "-1" : want;
        Kit.due("README: " + call + " is " + told + " there, and answers " + got, got.equals(told), true);
    }

    private static TreeSet<String> face() {
        TreeSet<String> names = new TreeSet<>();
        for (Method m : HeldCoats.class.getDeclaredMethods()) {
            if (Modifier.isPublic(m.getModifiers())) {
                names.add(m.getName());
            }
        }
        return names;
    }

    /** The way that runs all, in a small project of its own: it sees each test, and each way in which one can fail. */
    private static void wayOfAll(String way, Path room) throws Exception {
        Path main = room.resolve("all/main");
        Path shared = room.resolve("all/shared/tests");
        copy(Path.of(".ci/run"), main.resolve(".ci/run"));
        write(main.resolve("src/main/java/HeldCoats.java"), "public final class HeldCoats { }");
        testThatEnds(main.resolve("src/test/java/FirstTest.java"), 0);
        testThatEnds(main.resolve("src/test/java/SecondTest.java"), 0);
        Kit.due("README: no test under ../shared is a failure", ran(way, main).exit != 0, true);
        testThatEnds(shared.resolve("Third.java"), 0);
        testThatEnds(shared.resolve("Fourth.java"), 0);
        allRun(ran(way, main), true, "all pass");
        for (String failing : List.of("main/src/test/java/FirstTest", "main/src/test/java/SecondTest", "shared/tests/Third", "shared/tests/Fourth")) {
            Path file = room.resolve("all/" + failing + ".java");
            testThatEnds(file, 1);
            allRun(ran(way, main), false, failing + " fails");
            testThatEnds(file, 0);
        }
        write(shared.resolve("Third.java"), "no Java");
        Kit.due("README: a test that does not compile is a failure", ran(way, main).exit != 0, true);
    }

    private static void allRun(Ran ran, boolean passes, String when) {
        Kit.due("README: the exit code, if " + when, ran.exit == 0, passes);
        for (String name : List.of("FirstTest", "SecondTest", "Third", "Fourth")) {
            Kit.due("README: " + name + " runs, if " + when, ran.out.contains(name + " is here"), true);
        }
    }

    private static void testThatEnds(Path file, int exit) throws IOException {
        String name = file.getFileName().toString().replace(".java", "");
        write(file, "public final class " + name + " { public static void main(String[] args) { new HeldCoats();"
            + " System.out.println(\"" + name + " is here\"); System.exit(" + exit + "); } }");
    }

    /** The way that runs one test, in a copy of this project, so that nothing is left here. */
    private static void wayOfOne(String way, Path room) throws Exception {
        Path main = room.resolve("one");
        for (Path from : files(Path.of("src"))) {
            copy(from, main.resolve(from));
        }
        Ran ran = ran("set -e\n" + way, main);
        Kit.due("README: one test runs, with exit code 0: " + ran.out, ran.exit, 0);
        Kit.due("README: it says so: " + ran.out, ran.out.matches("(?s).*\\w+Test: (\\d+) of \\1 answers are as due\n"), true);
    }

    private static void everyTestTold(String page) throws IOException {
        TreeSet<String> there = new TreeSet<>();
        for (Path file : files(Path.of("src/test/java"))) {
            String name = file.getFileName().toString();
            if (name.endsWith("Test.java")) {
                there.add(name.replace(".java", ""));
            }
        }
        TreeSet<String> told = new TreeSet<>();
        Matcher m = Pattern.compile("(?m)^\\| `(\\w+Test)` \\|").matcher(page);
        while (m.find()) {
            told.add(m.group(1));
        }
        Kit.due("README: it tells " + told + ", there are " + there, told.equals(there), true);
    }

    private static Ran ran(String commands, Path where) throws Exception {
        Process p = new ProcessBuilder("bash", "-c", commands).directory(where.toFile()).redirectErrorStream(true).start();
        p.getOutputStream().close();
        String out = new String(p.getInputStream().readAllBytes(), StandardCharsets.UTF_8);
        return new Ran(p.waitFor(), out);
    }

    private static List<Path> files(Path under) throws IOException {
        try (Stream<Path> all = Files.walk(under)) {
            return all.filter(Files::isRegularFile).toList();
        }
    }

    private static void write(Path file, String text) throws IOException {
        Files.createDirectories(file.getParent());
        Files.writeString(file, text);
    }

    private static void copy(Path from, Path to) throws IOException {
        Files.createDirectories(to.getParent());
        Files.copy(from, to, java.nio.file.StandardCopyOption.COPY_ATTRIBUTES);
    }

    private static void remove(Path room) throws IOException {
        List<Path> all;
        try (Stream<Path> walk = Files.walk(room)) {
            all = walk.sorted(Comparator.reverseOrder()).toList();
        }
        for (Path p : all) {
            Files.delete(p);
        }
    }
}

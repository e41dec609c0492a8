import java.io.ByteArrayOutputStream;
import java.io.IOException;
import java.io.PrintStream;
import java.lang.reflect.Method;
import java.lang.reflect.Modifier;
import java.net.URL;
import java.net.URLClassLoader;
import java.nio.file.Files;
import java.nio.file.Path;
import java.nio.file.Paths;
import java.util.ArrayList;
import java.util.Comparator;
import java.util.List;
import java.util.Set;
import java.util.TreeSet;
import java.util.regex.Matcher;
import java.util.regex.Pattern;
import java.util.stream.Stream;
import javax.tools.JavaCompiler;
import javax.tools.ToolProvider;

/** What README.md says holds: its example prints what is told there, and it names each call and each test. */
public final class ReadmeTest {
    private static final Path PAGE = Paths.get("README.md");
    private static final Path TESTS = Paths.get("src/test/java");

    private ReadmeTest() {
    }

    public static void main(String[] args) throws Exception {
        List<String> page = Files.readAllLines(PAGE);
        Path dir = Files.createTempDirectory("readme");
        try {
            example(page, dir);
        } finally {
            remove(dir);
        }
        calls(page);
        tests(page);
        Due.finish("ReadmeTest");
    }

    private static void must(String what, boolean holds) {
        Due.due(what, holds, true);
    }

    private static void example(List<String> page, Path dir) throws Exception {
        List<String> programs = blocks(page, "```java");
        List<String> prints = blocks(page, "```text");
        must("one example, and what it prints", programs.size() == 1 && prints.size() == 1);
        Path file = dir.resolve("Example.java");
        Files.writeString(file, programs.get(0));
        JavaCompiler compiler = ToolProvider.getSystemJavaCompiler();
        must("there is a compiler", compiler != null);
        String classes = System.getProperty("java.class.path");
        int code = compiler.run(null, null, null, "-cp", classes, "-d", dir.toString(), file.toString());
        must("the example compiles", code == 0);
        if (code == 0) {
            String got = printed(dir);
            must("the example prints what is told, not\n" + got, got.equals(prints.get(0)));
        }
    }

    private static String printed(Path dir) throws Exception {
        PrintStream before = System.out;
        ByteArrayOutputStream all = new ByteArrayOutputStream();
        try (URLClassLoader loader = new URLClassLoader(new URL[] {dir.toUri().toURL()})) {
            System.setOut(new PrintStream(all, true));
            loader.loadClass("Example").getMethod("main", String[].class).invoke(null, (Object) new String[0]);
        } finally {
            System.setOut(before);
        }
        return all.toString().replace(System.lineSeparator(), "\n");
    }

    /** The insides of all blocks that begin with this line. */
    private static List<String> blocks(List<String> page, String opening) {
        List<String> found = new ArrayList<>();
        StringBuilder block = null;
        for (String line : page) {
            if (block == null && line.equals(opening)) {
                block = new StringBuilder();
            } else if (block != null && line.equals("```")) {
                found.add(block.toString());
                block = null;
            } else if (block != null) {
                block.append(line).append('\n');
            }
        }
        return found;
    }

    private static void remove(Path dir) throws IOException {
        try (Stream<Path> files = Files.walk(dir)) {
            for (Path file : files.sorted(Comparator.reverseOrder()).toList()) {
                Files.delete(file);
            }
        }
    }

    /** The names in one column of the table that stands below a heading. */
    private static Set<String> named(List<String> page, String heading, int column) {
        Set<String> names = new TreeSet<>();
        boolean below = false;
        for (String line : page) {
            below = line.startsWith("#") ? line.equals(heading) : below;
            if (below && line.startsWith("| ")) {
                Matcher name = Pattern.compile("`(\\w+)`").matcher(line.split("\\|")[column]);
                while (name.find()) {
                    must(name.group(1) + " stands once below " + heading, names.add(name.group(1)));
                }
            }
        }
        return names;
    }

    private static void calls(List<String> page) {
        Set<String> face = new TreeSet<>();
        for (Method m : WidowRow.class.getDeclaredMethods()) {
            if (Modifier.isPublic(m.getModifiers())) {
                face.add(m.getName());
            }
        }
        Set<String> told = named(page, "### What each group of calls is for", 2);
        must("each call is in a group: " + told, told.equals(face));
    }

    private static void tests(List<String> page) throws IOException {
        Set<String> there = new TreeSet<>();
        try (Stream<Path> files = Files.list(TESTS)) {
            for (Path file : files.toList()) {
                String name = file.getFileName().toString();
                if (name.endsWith("Test.java")) {
                    there.add(name.substring(0, name.length() - 5));
                }
            }
        }
        Set<String> told = named(page, "## How to run its tests", 1);
        must("each test is told: " + told, told.equals(there));
    }
}

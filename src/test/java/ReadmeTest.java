import java.io.IOException;
import java.lang.reflect.Method;
import java.lang.reflect.Modifier;
import java.net.URL;
import java.net.URLClassLoader;
import java.nio.file.Files;
import java.nio.file.Path;
import java.util.ArrayList;
import java.util.HashSet;
import java.util.List;
import java.util.Set;
import java.util.regex.Matcher;
import java.util.regex.Pattern;
import java.util.stream.Stream;
import javax.tools.JavaCompiler;
import javax.tools.ToolProvider;

/** README.md: the Java that it shows is compiled and run, and answers what it says. */
public final class ReadmeTest {
    private static final Path ROOT = Path.of(System.getProperty("project.root", "."));
    private static final Pattern CALL =
        Pattern.compile("(p\\.(\\w+)\\(.*\\));\\s+// (NONE|BAD|STATE|FINDING|-?\\d+)(?![\\w.]).*");
    private static final Check check = new Check("ReadmeTest");

    public static void main(String[] args) throws Exception {
        List<String> lines = Files.readAllLines(ROOT.resolve("README.md"));
        List<String> program = new ArrayList<>();
        Set<String> shown = translate(lines, program);
        answers(lines, run(program));
        everyMethodIsShown(shown);
        everyTestIsNamed(String.join("\n", lines));
        yes("it says how to run the tests", Files.isExecutable(ROOT.resolve(".ci/run"))
            && lines.stream().anyMatch(l -> l.startsWith("`.ci/run`")));
        check.end();
    }

    private static void yes(String what, boolean holds) {
        check.due(what, holds ? 1 : 0, 1);
    }

    /** Each call in the blocks of Java becomes one that keeps its answer; the methods that are called. */
    private static Set<String> translate(List<String> lines, List<String> program) {
        Set<String> shown = new HashSet<>();
        boolean isJava = false;
        for (int i = 0; i < lines.size(); i++) {
            String line = lines.get(i);
            if (line.startsWith("```")) {
                isJava = line.equals("```java");
            } else if (isJava) {
                Matcher call = CALL.matcher(line.strip());
                boolean tells = call.matches();
                yes("line " + (i + 1) + " tells what it answers", tells || !line.strip().startsWith("p."));
                program.add(tells ? keeping(i, call) : line);
                if (tells) {
                    shown.add(call.group(2));
                }
            }
        }
        return shown;
    }

    private static String keeping(int line, Matcher call) {
        String want = call.group(3);
        String number = Character.isLetter(want.charAt(0)) ? "PassedCarry." + want : want + "L";
        return "all.add(new long[] {" + line + ", " + call.group(1) + ", " + number + "});";
    }

    private static List<long[]> run(List<String> program) throws Exception {
        Path dir = Files.createTempDirectory("readme");
        Path file = dir.resolve("Shown.java");
        Files.writeString(file, "public final class Shown {\n"
            + "public static java.util.List<long[]> answers() {\n"
            + "java.util.List<long[]> all = new java.util.ArrayList<>();\n"
            + String.join("\n", program) + "\nreturn all;\n}\n}\n");
        List<long[]> answers = new ArrayList<>();
        JavaCompiler compiler = ToolProvider.getSystemJavaCompiler();
        int code = compiler.run(null, null, null, "-d", dir.toString(),
            "-cp", System.getProperty("java.class.path"), file.toString());
        check.due("javac of what README.md shows", code, 0);
        if (code == 0) {
            try (URLClassLoader loader = new URLClassLoader(new URL[] {dir.toUri().toURL()})) {
                for (Object answer : (List<?>) loader.loadClass("Shown").getMethod("answers").invoke(null)) {
                    answers.add((long[]) answer);
                }
            }
        }
        remove(dir);
        return answers;
    }

    private static void remove(Path dir) throws IOException {
        try (Stream<Path> files = Files.list(dir)) {
            for (Path file : files.toList()) {
                Files.delete(file);
            }
        }
        Files.delete(dir);
    }

    private static void answers(List<String> lines, List<long[]> answers) {
        for (long[] answer : answers) {
            int line = (int) answer[0];
            check.due("line " + (line + 1) + ", " + lines.get(line).strip(), answer[1], answer[2]);
        }
        yes("at most 512 calls: " + answers.size(), answers.size() <= 512);
    }

    private static void everyMethodIsShown(Set<String> shown) {
        for (Method m : PassedCarry.class.getDeclaredMethods()) {
            yes("it shows " + m.getName() + "()", !Modifier.isPublic(m.getModifiers()) || shown.contains(m.getName()));
        }
    }

    private static void everyTestIsNamed(String words) throws IOException {
        Set<String> tests = new HashSet<>();
        try (Stream<Path> files = Files.list(ROOT.resolve("src/test/java"))) {
            for (Path file : files.toList()) {
                String name = file.getFileName().toString().replace(".java", "");
                if (name.endsWith("Test")) {
                    tests.add(name);
                    yes("it names " + name, words.contains("`" + name + "`"));
                }
            }
        }
        Matcher named = Pattern.compile("`(\\w+Test)`").matcher(words);
        while (named.find()) {
            yes("there is a " + named.group(1), tests.contains(named.group(1)));
        }
    }
}

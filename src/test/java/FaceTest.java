import java.lang.reflect.Field;
import java.lang.reflect.Method;
import java.lang.reflect.Modifier;
import java.nio.file.Files;
import java.nio.file.Path;
import java.util.Arrays;
import java.util.HashSet;
import java.util.List;
import java.util.Set;
import java.util.TreeSet;
import java.util.regex.Matcher;
import java.util.regex.Pattern;

/** The public face, and the rules of LANGUAGE.md that can be seen from outside or by words. */
public final class FaceTest {
    private static final Set<String> FACE = new TreeSet<>(List.of(
        "int row(int,int)", "int lay(int,int,int)", "int at(int,int)", "int tear(int)", "int copy(int,int,int,int,int)",
        "int mean(int)", "int text(int,int)", "int put(int,int,int)", "int fault(int)", "int hill(int)", "int road(int)",
        "int about(int,int)", "int pace(int,int)", "int mark(int,int)", "int head(int,int)", "int law(int)",
        "int begin()", "int go(int)", "int told(int,int)", "int sack()", "int passed(int)", "int keep(int)", "int on(int)",
        "int pays()", "int ranks(int)", "int laws(int)", "int best(int,int)", "int free(int,int)", "int duel(int,int,int)",
        "int pact(int,int,int,int)", "int worth(int,int,int)", "int start(int)", "int fair(int)", "int post(int,int)",
        "int could(int,int,int)", "int odds(int)", "int season(int,int,int)", "int asked()", "long upper()", "long lower()",
        "int count(int)", "int finding()", "int findings(int)", "long digest()"));
    private static final Set<String> CONSTANTS = Set.of("BAD", "FULL", "FINDING", "STATE", "SPENT", "NONE");
    private static final String[] FORBIDDEN = {
        "\\bthrow\\b", "\\btry\\b", "\\bcatch\\b", "\\bsynchronized\\b", "\\bassert\\b", "->", "::", "Exact\\b",
        "\\bprotected\\b", "\\bSystem\\.(?!arraycopy)", "\\bString\\b", "\\bInteger\\.(?!bitCount)", "\\bhashCode\\b",
        "\\bequals\\b", "\\btoString\\b", "\\bpackage\\b", "\\bThread\\b", "\\bObject\\b", "\\bMath\\.(?!min|max)"};

    private static final Check check = new Check("FaceTest");

    public static void main(String[] args) throws Exception {
        face();
        faceOfTheDocument();
        fields(PassedCarry.class, true);
        insideClasses();
        source();
        check.end();
    }

    private static String signature(Method m) {
        StringBuilder b = new StringBuilder(m.getReturnType().getName()).append(' ').append(m.getName()).append('(');
        for (int i = 0; i < m.getParameterCount(); i++) {
            b.append(i > 0 ? "," : "").append(m.getParameterTypes()[i].getName());
        }
        return b.append(')').toString();
    }

    private static void yes(String what, boolean holds) {
        check.due(what, holds ? 1 : 0, 1);
    }

    private static void face() {
        Set<String> found = new TreeSet<>();
        for (Method m : PassedCarry.class.getDeclaredMethods()) {
            if (Modifier.isPublic(m.getModifiers())) {
                found.add(signature(m));
                yes(m.getName() + " belongs to an object", !Modifier.isStatic(m.getModifiers()));
            } else {
                yes(m.getName() + " is private", Modifier.isPrivate(m.getModifiers()));
            }
        }
        yes("the methods of the face: " + found, found.equals(FACE));
        yes("the class is public and final",
            Modifier.isPublic(PassedCarry.class.getModifiers()) && Modifier.isFinal(PassedCarry.class.getModifiers()));
        check.due("constructors", PassedCarry.class.getDeclaredConstructors().length, 1);
        yes("a public constructor without arguments", PassedCarry.class.getConstructors()[0].getParameterCount() == 0);
    }

    /** The face once more as the document has it, should that ever be another one than the list above. */
    private static void faceOfTheDocument() throws Exception {
        Path path = Path.of(System.getProperty("project.root", "."), "..", "shared", "DOC.md");
        if (!Files.exists(path)) {
            return;
        }
        String[] blocks = Files.readString(path).split("```");
        yes("the document shows the class", blocks.length > 1 && blocks[1].contains("public final class PassedCarry"));
        Set<String> methods = new TreeSet<>();
        Matcher method = Pattern.compile("public (int|long) (\\w+)\\((.*?)\\);").matcher(blocks[1]);
        while (method.find()) {
            methods.add(method.group(1) + " " + method.group(2) + "(" + method.group(3).replaceAll(" \\w+(, )?", ",")
                .replaceAll(",$", "") + ")");
        }
        yes("the document's methods: " + methods, methods.equals(FACE));
        Matcher constant = Pattern.compile("\\b([A-Z]+) = (-?\\d+)").matcher(blocks[1]);
        int constants = 0;
        while (constant.find()) {
            constants++;
            check.due(constant.group(1), PassedCarry.class.getField(constant.group(1)).getInt(null),
                Integer.parseInt(constant.group(2)));
        }
        check.due("the document's constants", constants, CONSTANTS.size());
    }

    private static void fields(Class<?> c, boolean mustHide) {
        Set<String> open = new HashSet<>();
        int own = 0;
        for (Field f : c.getDeclaredFields()) {
            int m = f.getModifiers();
            if (Modifier.isPublic(m)) {
                open.add(f.getName());
            } else if (mustHide) {
                yes(f.getName() + " is private", Modifier.isPrivate(m));
            }
            if (Modifier.isStatic(m)) {
                yes(f.getName() + " is final", Modifier.isFinal(m));
            } else {
                own++;
            }
        }
        yes("open fields of " + c.getName(), open.equals(mustHide ? CONSTANTS : Set.of()));
        yes("some twenty fields in " + c.getName(), own <= 20);
    }

    private static void insideClasses() {
        Set<String> names = new HashSet<>();
        FACE.forEach(s -> names.add(s.substring(s.indexOf(' ') + 1, s.indexOf('('))));
        for (Method m : PassedCarry.class.getDeclaredMethods()) {
            yes(m.getName() + " takes seven at most", m.getParameterCount() <= 7);
            yes(m.getName() + " bears no public name", Modifier.isPublic(m.getModifiers()) || !names.contains(m.getName()));
        }
        Class<?>[] inside = PassedCarry.class.getDeclaredClasses();
        yes("some twelve classes", inside.length <= 12);
        for (Class<?> c : inside) {
            yes(c.getName() + " is static", Modifier.isStatic(c.getModifiers()));
            yes(c.getName() + " is not open", !Modifier.isPublic(c.getModifiers()) && !Modifier.isProtected(c.getModifiers()));
            fields(c, false);
            for (Method m : c.getDeclaredMethods()) {
                yes(c.getName() + "." + m.getName() + " bears no public name", !names.contains(m.getName()));
                yes(m.getName() + " takes seven at most", m.getParameterCount() <= 7);
            }
        }
    }

    private static void source() throws Exception {
        Path file = Path.of(System.getProperty("project.root", "."), "src/main/java/PassedCarry.java");
        String text = Files.readString(file);
        yes("signs 1 to 127 alone", text.chars().allMatch(c -> c >= 1 && c <= 127));
        String code = text.replaceAll("(?s)/\\*.*?\\*/", "").replaceAll("//[^\n]*", "");
        for (String word : FORBIDDEN) {
            Matcher m = Pattern.compile(word).matcher(code);
            yes("the source is without " + word, !m.find());
        }
        String[] imports = code.lines().filter(l -> l.startsWith("import")).toArray(String[]::new);
        yes("imports " + Arrays.toString(imports), Arrays.equals(imports, new String[] {"import java.util.Arrays;"}));
        methodsAreShort(text);
    }

    private static void methodsAreShort(String text) {
        String[] lines = text.split("\n");
        int begin = -1;
        for (int i = 0; i < lines.length; i++) {
            if (lines[i].matches(" {4}( {4})?[a-z].*\\) \\{")) {
                begin = i;
            }
            if (begin >= 0 && lines[i].matches(" {4}( {4})?\\}") && lines[i].indexOf('}') == indent(lines[begin])) {
                yes("the method at line " + (begin + 1) + " is short", i - begin < 60);
                begin = -1;
            }
        }
    }

    private static int indent(String line) {
        return line.length() - line.stripLeading().length();
    }
}

import java.io.IOException;
import java.lang.reflect.Constructor;
import java.lang.reflect.Field;
import java.lang.reflect.Method;
import java.lang.reflect.Modifier;
import java.nio.file.Files;
import java.nio.file.Path;
import java.util.ArrayList;
import java.util.List;
import java.util.Set;
import java.util.TreeSet;
import java.util.regex.Matcher;
import java.util.regex.Pattern;

/** The rules of LANGUAGE.md, as far as a program can see them, and the face of the document. */
public final class RulesTest {
    private static final Path SOURCE = Path.of("src/main/java/GrownKinds.java");
    private static final Path DOCUMENT = Path.of("../shared/DOC.md");

    private static final Set<String> FACE = new TreeSet<>();

    private RulesTest() {
    }

    private static String signature(Method m) {
        StringBuilder s = new StringBuilder(m.getReturnType().getName() + " " + m.getName());
        for (Class<?> type : m.getParameterTypes()) {
            s.append(' ').append(type.getName());
        }
        return s.toString();
    }

    private static void face() throws IOException {
        Set<String> want = new TreeSet<>();
        Matcher m = Pattern.compile("public (int|long) (\\w+)\\(([^)]*)\\);").matcher(Files.readString(DOCUMENT));
        while (m.find()) {
            StringBuilder s = new StringBuilder(m.group(1) + " " + m.group(2));
            for (String parameter : m.group(3).isEmpty() ? new String[0] : m.group(3).split(", ")) {
                s.append(' ').append(parameter.split(" ")[0]);
            }
            want.add(s.toString());
        }
        Set<String> got = new TreeSet<>();
        Set<String> open = new TreeSet<>();
        for (Method method : GrownKinds.class.getDeclaredMethods()) {
            if (!Modifier.isPrivate(method.getModifiers()) && !method.isSynthetic()) {
                got.add(signature(method));
                open.add(method.getName());
                FACE.add(method.getName());
            }
        }
        Kit.due("methods of the document", want.size(), 47);
        Kit.holds("1: the methods are those of the document: " + got, got.equals(want));
        for (Method method : GrownKinds.class.getDeclaredMethods()) {
            Kit.holds("1: a private method bears a public name: " + method.getName(),
                !Modifier.isPrivate(method.getModifiers()) || !open.contains(method.getName()));
            Kit.holds("11: parameters of " + method.getName(), method.getParameterCount() <= 7);
        }
        for (Field field : GrownKinds.class.getDeclaredFields()) {
            Kit.holds("1: the field " + field.getName(),
                Modifier.isPrivate(field.getModifiers()) || field.getName().equals("NONE"));
        }
        Constructor<?>[] constructors = GrownKinds.class.getDeclaredConstructors();
        Kit.due("1: constructors", constructors.length, 1);
        Kit.holds("1: the class is public and final",
            Modifier.isPublic(GrownKinds.class.getModifiers()) && Modifier.isFinal(GrownKinds.class.getModifiers()));
    }

    private static void classes() {
        List<Class<?>> all = new ArrayList<>(List.of(GrownKinds.class.getDeclaredClasses()));
        Kit.holds("11: some twelve classes", all.size() <= 12);
        for (Class<?> inside : all) {
            Kit.holds("2: static: " + inside, Modifier.isStatic(inside.getModifiers()));
            Kit.holds("1: not public: " + inside, !Modifier.isPublic(inside.getModifiers()));
            for (Method method : inside.getDeclaredMethods()) {
                Kit.holds("11: parameters of " + method, method.getParameterCount() <= 7);
                Kit.holds("1: a private method bears a public name: " + method,
                    !Modifier.isPrivate(method.getModifiers()) || !FACE.contains(method.getName()));
            }
        }
        all.add(GrownKinds.class);
        for (Class<?> one : all) {
            int fields = 0;
            for (Field field : one.getDeclaredFields()) {
                boolean fixed = Modifier.isStatic(field.getModifiers());
                fields += fixed ? 0 : 1;
                Kit.holds("5: static fields are final: " + field, !fixed || Modifier.isFinal(field.getModifiers()));
            }
            Kit.holds("11: some twenty fields: " + one + " has " + fields, fields <= 20);
        }
    }

    /** The source without its comments and texts. */
    private static String bare(String source) {
        return source.replaceAll("(?s)/\\*.*?\\*/", "").replaceAll("//[^\n]*", "")
            .replaceAll("\"[^\"\n]*\"", "\"\"").replaceAll("'[^'\n]'", "'x'");
    }

    private static void words(String bare) {
        for (String word : List.of("throw", "throws", "try", "catch", "synchronized", "assert", "package", "double", "float",
            "yield", "volatile", "native", "static \\{", "->", "::", "System\\.(?!arraycopy)", "Exact\\(", "Object", "hashCode",
            "toString", "protected", "Random", "Thread", "\\bthis\\b\\s*[,)]", "var\\b")) {
            String seek = Character.isLetter(word.charAt(0)) ? "\\b" + word : word;
            seek = word.matches("[a-z]+") ? seek + "\\b" : seek;
            Matcher m = Pattern.compile(seek).matcher(bare);
            Kit.holds("the source has " + word, !m.find());
        }
        Matcher imports = Pattern.compile("import ([^;]+);").matcher(bare);
        while (imports.find()) {
            Kit.holds("4: import " + imports.group(1), Set.of("java.util.Arrays", "java.util.ArrayList", "java.util.List").contains(imports.group(1)));
        }
        Matcher arrays = Pattern.compile("Arrays\\.(\\w+)").matcher(bare);
        while (arrays.find()) {
            Kit.holds("4: Arrays." + arrays.group(1), Set.of("copyOf", "copyOfRange", "fill").contains(arrays.group(1)));
        }
        Kit.holds("4: Arrays.fill over an array of boolean", !bare.matches("(?s).*Arrays\\.fill\\([^;]*(true|false)\\);.*"));
        Kit.holds("3: signs of the source are plain", bare.chars().allMatch(c -> c == 10 || c >= 32 && c < 127));
    }

    /** 11: a method has some sixty lines; 10: no texts joined by +. */
    private static void lengths(String source) {
        String[] lines = source.split("\n");
        int from = -1;
        String name = "";
        for (int i = 0; i < lines.length; i++) {
            Matcher head = Pattern.compile("^( {4}| {8})(?!return|switch)[\\w\\[\\]<> ]*\\b(\\w+)\\([^;]*\\) \\{$").matcher(lines[i]);
            if (head.matches()) {
                from = i;
                name = head.group(2);
            } else if (from >= 0 && lines[i].equals(lines[from].replaceAll("\\S.*", "") + "}")) {
                Kit.holds("11: " + name + " has " + (i - from + 1) + " lines", i - from + 1 <= 60);
                from = -1;
            }
            Kit.holds("10: a text joined in line " + (i + 1), !lines[i].matches(".*\"\\s*\\+.*|.*\\+\\s*\".*"));
        }
    }

    /** 8, 11: calls go at most eight deep, the library's among them; few methods come back to themselves. */
    private static void calls() throws IOException {
        CallDepth depth = new CallDepth(SOURCE);
        for (Method method : GrownKinds.class.getDeclaredMethods()) {
            List<String> chain = depth.deepest("GrownKinds." + method.getName());
            Kit.holds("11: calls " + chain, chain.size() >= 1 && chain.size() <= 8);
        }
        Set<String> due = Set.of("Reader.readExpr", "Reader.readTerm", "Reader.readPart", "Sequences.listRings",
                "Sequences.listRingsBy");
        Kit.holds("8: come back to themselves: " + depth.recursive(), depth.recursive().equals(due));
    }

    public static void main(String[] args) throws IOException {
        String source = Files.readString(SOURCE);
        face();
        classes();
        words(bare(source));
        lengths(source);
        calls();
        Kit.finish("RulesTest");
    }
}

import java.io.IOException;
import java.lang.reflect.Constructor;
import java.lang.reflect.Field;
import java.lang.reflect.Method;
import java.lang.reflect.Modifier;
import java.nio.file.DirectoryStream;
import java.nio.file.Files;
import java.nio.file.Path;
import java.util.Set;
import java.util.TreeSet;
import java.util.regex.Matcher;
import java.util.regex.Pattern;

/** The face of the document, and those rules of LANGUAGE.md that can be looked up. */
public final class RulesTest {
    private static final String[] FACE = {
        "ask()", "cell(int,int)", "cold(int)", "drift(int)", "fault()", "feed(int)", "fewest(int)", "game(int,int,int,int,int)",
        "goBack(int)", "heard(int)", "judge()", "keep(int)", "leastSalt(int)", "lives(int,int)", "night(int)", "noMore(int,int)",
        "over(int,int)", "person(int,int)", "river()", "salt(int,int,int)", "see(int,boolean)", "seed(int)", "snow(int,boolean)",
        "spring()", "step(int,int)", "tear()", "thaw(int,int)", "then(int,int)", "told(int)", "tolls(int,int)", "undo()",
        "when(int,int)", "who(int)", "write(int,int)"};
    private static final String[] CONSTANTS = {"FULL", "NONE", "NOT", "OUTSIDE", "UNKNOWN"};

    public static void main(String[] args) throws IOException {
        face();
        nested();
        Path root = Path.of(System.getProperty("icelaw.root", "."));
        source(Files.readString(root.resolve("src/main/java/IceLaw.java")));
        counted(root.resolve("src/test/java"));
        Check.end("RulesTest");
    }

    private static void same(String what, Object got, Object want) {
        Check.due(what + ": " + got + " for " + want, got.equals(want) ? 1 : 0, 1);
    }

    private static void face() {
        Set<String> methods = new TreeSet<>();
        Set<String> publicNames = new TreeSet<>();
        for (Method method : IceLaw.class.getDeclaredMethods()) {
            if (Modifier.isPublic(method.getModifiers())) {
                same(method.getName() + " answers", method.getReturnType(), int.class);
                methods.add(signature(method));
                publicNames.add(method.getName());
            }
        }
        same("the face", methods, new TreeSet<>(Set.of(FACE)));
        for (Method method : IceLaw.class.getDeclaredMethods()) {
            if (!Modifier.isPublic(method.getModifiers())) {
                same(method.getName() + " is private", Modifier.isPrivate(method.getModifiers()), true);
                same(method.getName() + " has a name of its own", publicNames.contains(method.getName()), false);
            }
        }
        Set<String> constants = new TreeSet<>();
        for (Field field : IceLaw.class.getDeclaredFields()) {
            if (Modifier.isPrivate(field.getModifiers())) continue;
            constants.add(field.getName());
            same(field.getName(), field.getModifiers(), Modifier.PUBLIC | Modifier.STATIC | Modifier.FINAL);
            same(field.getName(), field.getType(), int.class);
        }
        same("the constants", constants, new TreeSet<>(Set.of(CONSTANTS)));
        Constructor<?>[] constructors = IceLaw.class.getDeclaredConstructors();
        same("one constructor", constructors.length, 1);
        same("public", constructors[0].getModifiers(), Modifier.PUBLIC);
        same("without parameters", constructors[0].getParameterCount(), 0);
        same("public and final", IceLaw.class.getModifiers(), Modifier.PUBLIC | Modifier.FINAL);
        for (Class<?> inside : IceLaw.class.getDeclaredClasses()) {
            for (Method method : inside.getDeclaredMethods()) {
                same(signature(method) + " inside has a name of its own", publicNames.contains(method.getName()), false);
            }
        }
    }

    private static String signature(Method method) {
        StringBuilder name = new StringBuilder(method.getName()).append('(');
        for (Class<?> type : method.getParameterTypes()) {
            name.append(name.charAt(name.length() - 1) == '(' ? "" : ",").append(type.getName());
        }
        return name.append(')').toString();
    }

    private static void nested() {
        Class<?>[] classes = IceLaw.class.getDeclaredClasses();
        same("at most twelve classes", classes.length <= 11, true);
        for (Class<?> inside : classes) {
            same(inside + " is static", Modifier.isStatic(inside.getModifiers()), true);
            same(inside + " is not public", inside.getModifiers() & (Modifier.PUBLIC | Modifier.PROTECTED), 0);
            fields(inside);
        }
        fields(IceLaw.class);
    }

    private static void fields(Class<?> of) {
        int own = 0;
        for (Field field : of.getDeclaredFields()) {
            if (Modifier.isStatic(field.getModifiers())) {
                same(field + " is final", Modifier.isFinal(field.getModifiers()), true);
            } else {
                own++;
            }
        }
        same("at most twenty fields in " + of, own <= 20, true);
    }

    /** No test asks an object behind its 512th call: Law counts, and no test goes around it. */
    private static void counted(Path tests) throws IOException {
        try (DirectoryStream<Path> files = Files.newDirectoryStream(tests, "*.java")) {
            for (Path file : files) {
                boolean makes = Pattern.compile("new Ice" + "Law\\(\\)(?!;\")").matcher(Files.readString(file)).find();
                same(file.getFileName() + " makes objects of the class", makes, file.endsWith("Law.java"));
            }
        }
    }

    /** Of the library only what rule 4 lists (and the class uses), and no texts, so that none is joined by +. */
    private static void library(String code) {
        Set<String> allowed = Set.of("Math.max", "Math.min", "Math.abs", "Integer.bitCount", "Arrays.fill");
        Matcher used = Pattern.compile("(?<![\\w.])[A-Z]\\w*[a-z]\\w*\\.\\w+").matcher(code.replaceAll("import [^;]+;", ""));
        while (used.find()) {
            same(used.group() + " is allowed", allowed.contains(used.group()), true);
        }
        same("no texts", code.contains("\"") || code.contains("String"), false);
    }

    private static void source(String text) {
        String code = text.replaceAll("(?s)/\\*.*?\\*/", "").replaceAll("//[^\n]*", "");
        Matcher banned = Pattern.compile("\\b(throw|throws|try|catch|synchronized|assert|package|Exact)\\b|->|::|Exact\\(").matcher(code);
        same("no word that the rules ban", banned.find() ? banned.group() : "", "");
        Matcher imports = Pattern.compile("import ([^;]+);").matcher(code);
        while (imports.find()) {
            same("import", imports.group(1), "java.util.Arrays");
        }
        library(code);
        same("signs 1 to 127", text.chars().allMatch(sign -> sign > 0 && sign < 128), true);
        int from = -1;
        String[] lines = text.split("\n");
        for (int k = 0; k < lines.length; k++) {
            String bare = lines[k].strip();
            boolean opens = bare.endsWith(") {") && Pattern.compile("^(public|private|static|int|void|boolean|Image|Ice|Past)\\b").matcher(bare).find();
            if (opens) {
                from = k;
                same("at most seven parameters: " + bare, bare.chars().filter(sign -> sign == ',').count() <= 6, true);
            }
            if (bare.isEmpty() && from >= 0) {
                same("a short method at line " + from, k - from <= 60, true);
            }
        }
    }
}

import java.io.IOException;
import java.lang.reflect.InvocationTargetException;
import java.lang.reflect.Method;
import java.lang.reflect.Modifier;
import java.nio.file.Files;
import java.nio.file.Path;
import java.util.List;
import java.util.regex.Matcher;
import java.util.regex.Pattern;

/** What README.md shows is what the class answers, and it leaves out no call and no constant. */
public final class ReadmeTest {
    private static final Pattern TEXT = Pattern.compile("String text = \"(.*)\";");
    private static final Pattern CALL = Pattern.compile("law\\.(\\w+)\\(([-\\d, ]*)\\);\\s+// (-?\\w+): .+");

    private Law law = new Law();
    private int shown = 0;

    public static void main(String[] args) throws IOException, ReflectiveOperationException {
        String page = Files.readString(Path.of(System.getProperty("icelaw.root", "."), "README.md"));
        new ReadmeTest().examples(page);
        calls(page);
        constants(page);
        Check.end("ReadmeTest");
    }

    private void examples(String page) throws ReflectiveOperationException {
        Matcher block = Pattern.compile("(?s)```java\n(.*?)```").matcher(page);
        while (block.find()) {
            for (String line : block.group(1).split("\n")) {
                goOn(line);
            }
        }
        Check.due("README.md shows calls", shown > 0 ? 1 : 0, 1);
    }

    private void goOn(String line) throws ReflectiveOperationException {
        Matcher text = TEXT.matcher(line);
        Matcher call = CALL.matcher(line);
        if (line.equals("IceLaw law = new IceLaw();")) {
            law = new Law();
        } else if (text.matches()) {
            law.tell(text.group(1));
        } else if (call.matches()) {
            shown++;
            Check.due("README.md: " + line, answer(call.group(1), call.group(2)), number(call.group(3)));
        } else {
            Check.due("README.md feeds the text: " + line, line.startsWith("for (") && line.contains("law.feed(") ? 1 : 0, 1);
        }
    }

    private int answer(String name, String arguments) throws ReflectiveOperationException {
        List<String> parts = arguments.isBlank() ? List.of() : List.of(arguments.split(", "));
        Class<?>[] types = new Class<?>[parts.size()];
        Object[] numbers = new Object[parts.size()];
        for (int k = 0; k < types.length; k++) {
            types[k] = int.class;
            numbers[k] = Integer.parseInt(parts.get(k));
        }
        try {
            return (int) Law.class.getDeclaredMethod(name, types).invoke(law, numbers);
        } catch (InvocationTargetException wrong) {
            throw new IllegalStateException(name + " threw", wrong);
        }
    }

    private static int number(String told) throws ReflectiveOperationException {
        boolean isNumber = told.matches("-?\\d+");
        return isNumber ? Integer.parseInt(told) : IceLaw.class.getField(told).getInt(null);
    }

    /** Each call has a row, and the row has as many arguments. */
    private static void calls(String page) {
        for (Method method : IceLaw.class.getDeclaredMethods()) {
            if (Modifier.isPublic(method.getModifiers())) {
                int count = method.getParameterCount();
                String arguments = count == 0 ? "" : "\\w+" + ", \\w+".repeat(count - 1);
                Matcher row = Pattern.compile("(?m)^\\| `" + method.getName() + "\\(" + arguments + "\\)` \\| .+ \\|.*\\|$").matcher(page);
                Check.due("README.md has a row for " + method.getName(), row.find() ? 1 : 0, 1);
            }
        }
    }

    private static void constants(String page) throws ReflectiveOperationException {
        for (String name : new String[] {"NONE", "UNKNOWN", "OUTSIDE", "NOT", "FULL"}) {
            String row = "| `" + name + "` | " + IceLaw.class.getField(name).getInt(null) + " |";
            Check.due("README.md has a row " + row, page.contains(row) ? 1 : 0, 1);
        }
    }
}

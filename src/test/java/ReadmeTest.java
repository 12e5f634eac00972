import java.io.IOException;
import java.lang.reflect.Method;
import java.lang.reflect.Modifier;
import java.nio.file.Files;
import java.nio.file.Path;
import java.util.HashSet;
import java.util.Set;
import java.util.regex.Matcher;
import java.util.regex.Pattern;

/** Promises 1 to 30: the run of calls in README.md is there for every call, and answers what is written there. */
public final class ReadmeTest {
    private static final Due DUE = new Due();
    private static final Pattern MADE = Pattern.compile("StoneGhosts x = new StoneGhosts\\(\\);");
    private static final Pattern CALL = Pattern.compile("x\\.(\\w+)\\(([^)]*)\\);\\s+// (-?\\w+(?: \\+ \\w+)?)(?::.*)?");
    private static final Pattern TEXT = Pattern.compile("for \\(char sign : \"(\\S+)\"\\.toCharArray\\(\\)\\) x\\.say\\(sign\\);");
    private static final Pattern ROW = Pattern.compile("\\| `(\\w+)\\(([^)]*)\\)` \\|.*\\|");

    public static void main(String[] args) throws IOException, ReflectiveOperationException {
        String readme = Files.readString(Path.of("README.md"));
        run(readme);
        table(readme);
        DUE.end();
    }

    private static void run(String readme) throws ReflectiveOperationException {
        Matcher block = Pattern.compile("(?s)```java\n(.*?)```").matcher(readme);
        DUE.holds("README.md has a run of calls", block.find());
        Set<String> called = new HashSet<>();
        StoneGhosts x = null;
        int calls = 0;
        for (String line : block.group(1).split("\n")) {
            Matcher call = CALL.matcher(line);
            Matcher text = TEXT.matcher(line);
            if (MADE.matcher(line).matches()) {
                x = new StoneGhosts();
            } else if (call.matches()) {
                called.add(call.group(1));
                calls++;
                DUE.is(line, answer(x, call.group(1), call.group(2)), number(call.group(3)));
            } else if (text.matches()) {
                Due.write(x, text.group(1));
                calls += text.group(1).length();
            } else {
                DUE.holds("can be read: " + line, line.isBlank() || line.strip().startsWith("//"));
            }
        }
        DUE.holds("512 calls at most", calls <= 512);
        DUE.holds("every call is in the run: " + called, called.equals(face()));
    }

    /** Every call is told in the table, with as many arguments as it takes. */
    private static void table(String readme) throws ReflectiveOperationException {
        Set<String> told = new HashSet<>();
        for (String line : readme.split("\n")) {
            Matcher row = ROW.matcher(line);
            if (row.matches()) {
                told.add(row.group(1));
                DUE.is("arguments of " + row.group(1), words(row.group(2)).length, method(row.group(1)).getParameterCount());
            }
        }
        DUE.holds("every call is in the table: " + told, told.equals(face()));
    }

    private static Set<String> face() {
        Set<String> names = new HashSet<>();
        for (Method m : StoneGhosts.class.getDeclaredMethods()) {
            if (Modifier.isPublic(m.getModifiers())) names.add(m.getName());
        }
        return names;
    }

    private static Method method(String name) throws ReflectiveOperationException {
        for (Method m : StoneGhosts.class.getDeclaredMethods()) {
            if (Modifier.isPublic(m.getModifiers()) && m.getName().equals(name)) return m;
        }
        throw new NoSuchMethodException(name);
    }

    private static String[] words(String list) {
        return list.isEmpty() ? new String[0] : list.split(", ");
    }

    private static long answer(StoneGhosts x, String name, String list) throws ReflectiveOperationException {
        String[] words = words(list);
        Object[] with = new Object[words.length];
        for (int i = 0; i < words.length; i++) {
            boolean isSign = words[i].matches("'.'");
            boolean isYesOrNo = words[i].matches("true|false");
            with[i] = isSign ? (Object) (int) words[i].charAt(1)
                : isYesOrNo ? (Object) Boolean.valueOf(words[i]) : (Object) Integer.valueOf(words[i]);
        }
        return ((Number) method(name).invoke(x, with)).longValue();
    }

    /** A number, the name of a constant, or two of these together. */
    private static long number(String text) throws ReflectiveOperationException {
        long sum = 0;
        for (String part : text.split(" \\+ ")) {
            sum += part.matches("-?\\d+") ? Long.parseLong(part)
                : ((Number) StoneGhosts.class.getField(part).get(null)).longValue();
        }
        return sum;
    }
}

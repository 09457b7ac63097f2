import java.io.IOException;
import java.lang.reflect.Method;
import java.nio.file.Files;
import java.nio.file.Path;
import java.util.Set;
import java.util.TreeSet;
import java.util.regex.Matcher;
import java.util.regex.Pattern;

/** Makes the calls of README.md, one after the other on one object: a reader shall get what is told there. */
public final class ReadmeTest {
    private static final Pattern CODE = Pattern.compile("(?s)```java\n(.*?)```");
    private static final Pattern TELL = Pattern.compile("tell\\(x, \"(.*)\"\\);");
    private static final Pattern CALL = Pattern.compile("(x\\.(\\w+)\\((.*?)\\));\\s+// (-?\\d+)(:.*)?");

    public static void main(String[] args) throws IOException, ReflectiveOperationException {
        DeputyQuarrels x = new DeputyQuarrels();
        Set<String> shown = new TreeSet<>(Set.of("feed"));
        for (Matcher code = CODE.matcher(Files.readString(Path.of("README.md"))); code.find();) {
            if (code.group(1).startsWith("static void tell(")) continue;
            for (String line : code.group(1).split("\n")) {
                Matcher tell = TELL.matcher(line), call = CALL.matcher(line);
                if (tell.matches()) {
                    for (int i = 0; i < tell.group(1).length(); i++) x.feed(1, tell.group(1).charAt(i));
                } else if (call.matches()) {
                    shown.add(call.group(2));
                    Check.due(call.group(1), answer(x, call.group(2), call.group(3)), Long.parseLong(call.group(4)));
                } else {
                    Check.due("not understood: " + line, line.startsWith("DeputyQuarrels x = new ") ? 1 : 0, 1);
                }
            }
        }
        for (Method m : DeputyQuarrels.class.getDeclaredMethods()) {
            if (!java.lang.reflect.Modifier.isPublic(m.getModifiers())) continue;
            Check.due("README.md shows " + m.getName(), shown.contains(m.getName()) ? 1 : 0, 1);
        }
        Check.close();
    }

    private static int answer(DeputyQuarrels x, String name, String told) throws ReflectiveOperationException {
        for (Method m : DeputyQuarrels.class.getDeclaredMethods()) {
            if (m.getName().equals(name)) return call(x, m, told.isEmpty() ? new String[0] : told.split(", "));
        }
        throw new NoSuchMethodException(name);
    }

    private static int call(DeputyQuarrels x, Method m, String[] told) throws ReflectiveOperationException {
        Object[] values = new Object[told.length];
        for (int i = 0; i < told.length; i++) {
            if (told[i].equals("DeputyQuarrels.NONE")) values[i] = DeputyQuarrels.NONE;
            else if (m.getParameterTypes()[i] == boolean.class) values[i] = Boolean.valueOf(told[i]);
            else values[i] = Integer.valueOf(told[i]);
        }
        return (Integer) m.invoke(x, values);
    }
}

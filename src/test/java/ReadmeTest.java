import java.lang.reflect.InvocationTargetException;
import java.lang.reflect.Method;
import java.lang.reflect.Modifier;
import java.nio.file.Files;
import java.nio.file.Path;
import java.util.regex.Matcher;
import java.util.regex.Pattern;

/** README.md's examples answer as they say, and its table names every call of the face. */
public final class ReadmeTest {
    private static final Due DUE = new Due();
    private static final Pattern EXAMPLE = Pattern.compile("x\\.(\\w+)\\(([^)]*)\\);\\s*// ([^:]+): .*");

    public static void main(String[] args) throws Exception {
        String readme = Files.readString(Path.of("README.md"));
        int blocks = 0;
        for (String part : readme.split("```java\n")) {
            if (part.startsWith("CaveAdvice x = new CaveAdvice();\n")) {
                block(part.substring(0, part.indexOf("```")));
                blocks++;
            }
        }
        DUE.is("blocks of examples", blocks, 2);
        for (Method m : CaveAdvice.class.getDeclaredMethods()) {
            if (Modifier.isPublic(m.getModifiers())) {
                DUE.holds("named: " + m.getName(), readme.contains("`" + m.getName() + "`"));
            }
        }
        DUE.close();
    }

    private static void block(String lines) throws Exception {
        CaveAdvice x = new CaveAdvice();
        String[] all = lines.split("\n");
        for (int i = 1; i < all.length; i++) {
            Matcher m = EXAMPLE.matcher(all[i]);
            boolean isExample = m.matches();
            DUE.holds("an example: " + all[i], isExample);
            if (isExample) {
                String got = answer(x, m.group(1), m.group(2));
                DUE.holds(all[i] + " (answered " + got + ")", got.equals(m.group(3)));
            }
        }
    }

    private static String answer(CaveAdvice x, String name, String told) throws Exception {
        String[] texts = told.isEmpty() ? new String[0] : told.split(", ");
        Object[] values = new Object[texts.length];
        for (int i = 0; i < values.length; i++) {
            values[i] = Integer.decode(texts[i]);
        }
        for (Method m : CaveAdvice.class.getMethods()) {
            if (m.getName().equals(name) && m.getParameterCount() == values.length) {
                try {
                    return String.valueOf(m.invoke(x, values));
                } catch (InvocationTargetException e) {
                    return e.getCause().getClass().getSimpleName();
                }
            }
        }
        return "no such call";
    }
}

import java.lang.reflect.Constructor;
import java.lang.reflect.Field;
import java.lang.reflect.Method;
import java.lang.reflect.Modifier;
import java.nio.file.Files;
import java.nio.file.Path;
import java.util.TreeSet;

/** The face of the document, no more and no less, and what LANGUAGE.md rules out, as far as it can be seen. */
public final class FaceTest {
    private static final Due DUE = new Due();
    private static final String[] FACE = {"sign1", "end1", "passages0", "rule0", "passage2", "cavern2", "sheet4", "calls2", "hours1",
        "falls1", "digs3", "season0", "undo0", "route2", "hears2", "asks2", "becomes0", "keeps2", "apart3", "longest1",
        "rounds0", "way2", "meets2", "heart0", "ropes0", "needed0", "tour2", "halves0", "guides0", "most0", "told2",
        "forget0", "fits0", "next0", "heard3", "denied0", "laws0", "listens0", "hints5", "game2", "law0", "rests1",
        "years2", "keep1", "again1", "count1", "row1"};

    public static void main(String[] args) throws Exception {
        face();
        privateNames();
        source(Files.readString(Path.of("src/main/java/CaveAdvice.java")));
        DUE.close();
    }

    private static void face() {
        Class<?> type = CaveAdvice.class;
        DUE.holds("the class is public and final", Modifier.isPublic(type.getModifiers()) && Modifier.isFinal(type.getModifiers()));
        TreeSet<String> due = new TreeSet<>(java.util.List.of(FACE));
        for (Method m : type.getDeclaredMethods()) {
            String name = m.getName() + m.getParameterCount();
            DUE.holds("due or private: " + name, Modifier.isPrivate(m.getModifiers()) || due.remove(name));
        }
        DUE.holds("missing: " + due, due.isEmpty());
        for (Field f : type.getDeclaredFields()) {
            boolean isPrivate = Modifier.isPrivate(f.getModifiers());
            DUE.holds("private: " + f.getName(), isPrivate || f.getName().equals("NONE"));
        }
        for (Constructor<?> c : type.getDeclaredConstructors()) {
            DUE.holds("a public constructor without parameters", Modifier.isPublic(c.getModifiers()) && c.getParameterCount() == 0);
        }
    }

    private static void privateNames() {
        TreeSet<String> names = new TreeSet<>();
        for (String name : FACE) {
            names.add(name.substring(0, name.length() - 1));
        }
        for (Method m : CaveAdvice.class.getDeclaredMethods()) {
            if (Modifier.isPrivate(m.getModifiers())) {
                DUE.holds("a private name of its own: " + m.getName(), !names.contains(m.getName()));
            }
            DUE.holds("at most seven parameters: " + m.getName(), m.getParameterCount() <= 7);
        }
        Class<?>[] inside = CaveAdvice.class.getDeclaredClasses();
        DUE.holds("at most twelve classes", inside.length <= 12);
        for (Class<?> c : inside) {
            DUE.holds("private and static: " + c, Modifier.isPrivate(c.getModifiers()) && Modifier.isStatic(c.getModifiers()));
            for (Method m : c.getDeclaredMethods()) {
                DUE.holds("a name of its own: " + m.getName(), !names.contains(m.getName()));
            }
        }
    }

    private static void source(String code) {
        String[] never = {"catch", "finally", "->", "::", "Exact", "synchronized", "assert ", "System.out", "Random", "Math.random",
            "nanoTime", "currentTime", "java.io", "Thread", "package "};
        for (String word : never) {
            DUE.holds("without " + word, !code.contains(word));
        }
        for (String line : code.split("\n")) {
            boolean imports = line.startsWith("import ");
            DUE.holds("no other import: " + line, !imports || line.equals("import java.util.NoSuchElementException;"));
        }
        for (char c : code.toCharArray()) {
            if (c > 126) {
                DUE.holds("signs 1 to 126 alone", false);
            }
        }
    }
}

import java.io.IOException;
import java.lang.reflect.Constructor;
import java.lang.reflect.Field;
import java.lang.reflect.Method;
import java.lang.reflect.Modifier;
import java.nio.file.Files;
import java.nio.file.Path;
import java.util.ArrayList;
import java.util.Arrays;
import java.util.Collections;
import java.util.List;
import java.util.TreeSet;

/** The face of the class as the document writes it, and the rules of LANGUAGE.md that can be seen at a glance. */
public final class FaceTest {
    private static final String[] FACE = {
        "wall(int,int,boolean)", "walls(int)", "arm(int,int,int,int)", "thing(int,int,int)", "piece(int,int,int)", "told(int,int)", "form(int)",
        "flip(int,int)", "type(long,int)", "rules(int)", "head(int,int)", "skin(int)", "ticks(int)", "finds(int,int)", "cut(int,int)",
        "count(int)", "forms(int)", "reach(int)", "far(int,int,int)", "fewest(int,int,int,int)", "image(int)", "restore(int)",
        "film(int,int,int,int)", "differs(int,int,int,int)", "sheet(int,int,int)", "drop(int)", "item(int,int,int,int)", "copy(int,int,int,int,int)",
    };

    public static void main(String[] args) throws IOException {
        methods();
        fields();
        constructors();
        classesInside();
        source();
        Check.end();
    }

    private static void methods() {
        List<String> open = new ArrayList<>();
        TreeSet<String> openNames = new TreeSet<>();
        for (Method m : ThinkingArms.class.getDeclaredMethods()) {
            if (Modifier.isPublic(m.getModifiers()) && !Modifier.isStatic(m.getModifiers()) && m.getReturnType() == int.class) {
                StringBuilder told = new StringBuilder();
                for (Class<?> p : m.getParameterTypes()) {
                    told.append(told.length() > 0 ? "," : "").append(p.getName());
                }
                open.add(m.getName() + "(" + told + ")");
                openNames.add(m.getName());
            }
        }
        List<String> want = new ArrayList<>(Arrays.asList(FACE));
        Collections.sort(open);
        Collections.sort(want);
        Check.holds("methods " + open, open.equals(want));
        for (Method m : ThinkingArms.class.getDeclaredMethods()) {
            boolean isPublic = Modifier.isPublic(m.getModifiers());
            Check.holds("public or private: " + m, isPublic || Modifier.isPrivate(m.getModifiers()));
            Check.holds("no name of the face: " + m, isPublic || !openNames.contains(m.getName()));
            Check.holds("at most seven parameters: " + m, m.getParameterCount() <= 7);
        }
    }

    private static void fields() {
        int constants = 0;
        for (Field f : ThinkingArms.class.getDeclaredFields()) {
            int how = f.getModifiers();
            if (Modifier.isPublic(how)) {
                constants++;
                Check.holds("a constant: " + f, Modifier.isStatic(how) && Modifier.isFinal(how) && f.getType() == int.class);
            } else {
                Check.holds("private: " + f, Modifier.isPrivate(how));
                Check.holds("no static state: " + f, !Modifier.isStatic(how) || Modifier.isFinal(how));
            }
        }
        Check.due("constants", constants, 8);
        int[] values = {ThinkingArms.BAD, ThinkingArms.NOT, ThinkingArms.FULL, ThinkingArms.NONE, ThinkingArms.NULL, ThinkingArms.CAST,
            ThinkingArms.INDEX, ThinkingArms.SIZE};
        int[] want = {-1, -2, -3, -4, -11, -12, -13, -14};
        for (int k = 0; k < 8; k++) {
            Check.due("constant " + k, values[k], want[k]);
        }
    }

    private static void constructors() {
        Constructor<?>[] all = ThinkingArms.class.getDeclaredConstructors();
        Check.due("constructors", all.length, 1);
        Check.holds("public, without parameters", Modifier.isPublic(all[0].getModifiers()) && all[0].getParameterCount() == 0);
        int how = ThinkingArms.class.getModifiers();
        Check.holds("public and final", Modifier.isPublic(how) && Modifier.isFinal(how));
        Check.holds("no package", ThinkingArms.class.getPackageName().isEmpty());
    }

    private static void classesInside() {
        Class<?>[] inside = ThinkingArms.class.getDeclaredClasses();
        Check.holds("at most some twelve classes", inside.length + 1 <= 12);
        for (Class<?> c : inside) {
            Check.holds("static: " + c, Modifier.isStatic(c.getModifiers()));
            Check.holds("not public: " + c, !Modifier.isPublic(c.getModifiers()) && !Modifier.isProtected(c.getModifiers()));
            for (Method m : c.getDeclaredMethods()) {
                Check.holds("no name of the face inside: " + m, !isOfTheFace(m.getName()));
                Check.holds("at most seven parameters: " + m, m.getParameterCount() <= 7);
            }
            int fields = 0;
            for (Field f : c.getDeclaredFields()) {
                fields += Modifier.isStatic(f.getModifiers()) ? 0 : 1;
            }
            Check.holds("at most some twenty fields: " + c, fields <= 20);
        }
    }

    private static boolean isOfTheFace(String name) {
        return Arrays.stream(FACE).anyMatch(f -> f.startsWith(name + "("));
    }

    private static void source() throws IOException {
        Path file = Path.of("src/main/java/ThinkingArms.java");
        List<String> lines = Files.readAllLines(file);
        String[] never = {"->", "::", "try {", "catch", "finally", "synchronized", "assert ", "throw ", "Exact(", "System.out", "System.nano",
            "Random", "Thread", "static {", ".equals(", "hashCode", "toString", "double ", "float "};
        for (String line : lines) {
            for (String word : never) {
                Check.holds("'" + word + "' in: " + line, !line.contains(word));
            }
            Check.holds("only java.util.Arrays: " + line, !line.startsWith("import") || line.equals("import java.util.Arrays;"));
            Check.holds("plain signs: " + line, line.chars().allMatch(c -> c >= 32 && c < 127));
        }
    }
}

import java.io.IOException;
import java.lang.reflect.Array;
import java.lang.reflect.Field;
import java.lang.reflect.Modifier;
import java.nio.file.Files;
import java.nio.file.Path;
import java.util.ArrayDeque;
import java.util.IdentityHashMap;
import java.util.List;
import java.util.Map;

/** LANGUAGE.md, rules 9 and 12: what a run makes is small, and a loop's end is seen from its own lines. */
public final class RoomTest {
    /** The room of one run; 512 calls at most, so that a call may have its share whatever the others are. */
    private static final int ROOM_OBJECTS = 600_000, ROOM_PARTS = 7_300_000, CALLS = 512;
    /** 49 claims: no text of 100 bytes has more. */
    private static final String LONGEST = "*|".repeat(48) + "*:f ";

    public static void main(String[] args) throws IOException {
        newObject();
        longestText();
        faultyText();
        dearCallsMakeNothing();
        imagesAreMadeOnce();
        makesOnlyWhereItIsCounted();
        noLoopWithoutCounter();
        Check.end();
    }

    /** Even a run that makes an object for each of its calls fits. */
    private static void newObject() {
        Map<Object, Object> made = reached(new ThinkingArms());
        Check.holds("a new object has its share of objects: " + made.size(), made.size() <= ROOM_OBJECTS / CALLS);
        Check.holds("a new object has its share of parts: " + parts(made), parts(made) <= ROOM_PARTS / CALLS);
    }

    private static void longestText() {
        ThinkingArms x = new ThinkingArms();
        x.arm(0, 0, 2, 0);
        int before = reached(x).size();
        Check.due("type the longest text", Check.type(x, LONGEST), 100);
        Check.due("rules of the longest text", x.rules(0), 1);
        int more = reached(x).size() - before;
        Check.holds("the longest text makes some fifty objects: " + more, more > 49 && more <= 60);
    }

    /** A text with a fault leaves nothing behind. */
    private static void faultyText() {
        ThinkingArms x = new ThinkingArms();
        x.arm(0, 0, 2, 0);
        Check.due("rules *:f", Check.rules(x, 0, "*:f"), 1);
        int before = reached(x).size();
        Check.due("rules *:f;", Check.rules(x, 0, "*:f;"), -24);
        Check.due("as many objects", reached(x).size(), before);
    }

    /** Ticks, searches, words, sheets: the same objects stand behind them as ahead. */
    private static void dearCallsMakeNothing() {
        ThinkingArms x = new ThinkingArms();
        x.arm(1, 1, 7, 0);
        x.arm(1, 3, 7, 0);
        x.arm(1, 5, 7, 0);
        for (int t = 0; t < 8; t++) {
            x.thing(t, 7, t % 4);
        }
        for (int a = 0; a < 3; a++) {
            Check.due("rules of arm " + a, Check.rules(x, a, "h:po1;!w0:fgo2;x:fgs1;t0|t1:gd;*:f"), 5);
        }
        x.image(0);
        Map<Object, Object> before = reached(x);
        for (int round = 0; round < 10; round++) {
            askAll(x, round);
        }
        Map<Object, Object> behind = reached(x);
        Check.due("as many objects", behind.size(), before.size());
        Check.holds("the same objects", before.keySet().containsAll(behind.keySet()));
    }

    private static void askAll(ThinkingArms x, int round) {
        for (int a = 0; a < 3; a++) {
            x.forms(a);
            x.reach(a);
            x.far(a, round % 8, a);
            x.fewest(a, round % 8, 20, 0);
            x.flip(a, 6);
            x.head(a, round % 4);
        }
        x.ticks(60);
        x.sheet(round % 4, 2, 64);
        x.item(round % 4, 2, 63, round);
        x.film(round % 3, round % 4, 2, 0);
        x.differs(round % 3, round % 4, 2, 1);
        x.copy(round % 4, 0, round % 4, 1, 63);
        x.image(0);
        x.restore(0);
        x.drop(round % 4);
    }

    private static void imagesAreMadeOnce() {
        ThinkingArms x = new ThinkingArms();
        int empty = reached(x).size();
        x.image(0);
        int one = reached(x).size();
        x.image(1);
        int both = reached(x).size();
        x.image(0);
        x.image(1);
        Check.holds("an image is made when it is asked for", one > empty && both - one == one - empty);
        Check.due("and not again", reached(x).size(), both);
    }

    /** Objects are made by constructors and fields, by texts of rules and by a first image alone. */
    private static void makesOnlyWhereItIsCounted() throws IOException {
        int elsewhere = 0;
        for (String line : source()) {
            boolean isField = line.contains("private final");
            boolean isPart = line.matches(" +\\w+\\[\\w+\\] = new (Sheet|Arm|Thing|Sea)\\(\\);");
            boolean isText = line.matches(" +(Rules|Clause|Claim) \\w+ = new \\w+\\(\\);");
            boolean isComment = line.trim().startsWith("/") || line.trim().startsWith("*");
            if (line.contains("new ") && !isField && !isPart && !isText && !isComment) {
                System.out.println(line);
                elsewhere++;
            }
        }
        Check.due("lines that make something else", elsewhere, 0);
    }

    /** A while or do counts in its own lines against the bound that it names; a for has a counter, or ends with a chain. */
    private static void noLoopWithoutCounter() throws IOException {
        List<String> lines = source();
        for (int at = 0; at < lines.size(); at++) {
            String code = lines.get(at).trim();
            if (code.startsWith("while (")) {
                Check.holds("counts in its own lines: " + code, bodyAhead(lines, at).contains(counterOf(code) + "++;"));
            }
            if (code.startsWith("} while (")) {
                Check.holds("counts in its own lines: " + code, bodyBehind(lines, at).contains(counterOf(code) + "++;"));
            }
            if (code.startsWith("for (")) {
                Check.holds("a counter or a chain: " + code, code.matches(".*(\\+\\+|--)\\) \\{|.*!= null; .*"));
            }
        }
    }

    private static String counterOf(String loop) {
        return loop.substring(loop.indexOf('(') + 1, Math.max(loop.indexOf('(') + 1, loop.indexOf(" < ")));
    }

    private static String bodyAhead(List<String> lines, int loop) {
        StringBuilder body = new StringBuilder();
        for (int k = loop + 1; k < lines.size() && !lines.get(k).trim().startsWith("}"); k++) {
            body.append(' ').append(lines.get(k).trim());
        }
        return body.toString();
    }

    private static String bodyBehind(List<String> lines, int loop) {
        StringBuilder body = new StringBuilder();
        for (int k = loop - 1; k >= 0 && !lines.get(k).trim().equals("do {"); k--) {
            body.append(' ').append(lines.get(k).trim());
        }
        return body.toString();
    }

    private static List<String> source() throws IOException {
        return Files.readAllLines(Path.of("src/main/java/ThinkingArms.java"));
    }

    /** All objects and arrays that an object keeps, itself too, each once. */
    private static Map<Object, Object> reached(Object from) {
        Map<Object, Object> seen = new IdentityHashMap<>();
        ArrayDeque<Object> todo = new ArrayDeque<>();
        seen.put(from, from);
        todo.add(from);
        while (!todo.isEmpty()) {
            for (Object next : referencesOf(todo.remove())) {
                if (next != null && seen.put(next, next) == null) {
                    todo.add(next);
                }
            }
        }
        return seen;
    }

    private static Object[] referencesOf(Object o) {
        if (o instanceof Object[]) {
            return (Object[]) o;
        }
        if (o.getClass().isArray()) {
            return new Object[0];
        }
        Field[] fields = o.getClass().getDeclaredFields();
        Object[] references = new Object[fields.length];
        for (int f = 0; f < fields.length; f++) {
            if (!fields[f].getType().isPrimitive() && !Modifier.isStatic(fields[f].getModifiers())) {
                references[f] = valueOf(fields[f], o);
            }
        }
        return references;
    }

    private static Object valueOf(Field field, Object o) {
        try {
            field.setAccessible(true);
            return field.get(o);
        } catch (IllegalAccessException e) {
            throw new IllegalStateException(e);
        }
    }

    /** Fields and elements of all these. */
    private static long parts(Map<Object, Object> objects) {
        long parts = 0;
        for (Object o : objects.keySet()) {
            if (o.getClass().isArray()) {
                parts += Array.getLength(o);
                continue;
            }
            for (Field f : o.getClass().getDeclaredFields()) {
                parts += Modifier.isStatic(f.getModifiers()) ? 0 : 1;
            }
        }
        return parts;
    }
}

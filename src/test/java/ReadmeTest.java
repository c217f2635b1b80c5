import java.io.IOException;
import java.nio.file.Files;
import java.nio.file.Path;

/** What README.md shows of the use of the class is so. */
public final class ReadmeTest {
    public static void main(String[] args) throws IOException {
        firstUse();
        textOfRules();
        namesAllCalls();
        Check.end();
    }

    private static void firstUse() {
        ThinkingArms x = new ThinkingArms();
        int arm = x.arm(2, 2, 4, 0);
        int thing = x.thing(5, 3, 1);
        Check.due("arm(2, 2, 4, 0)", arm, 0);
        Check.due("its piece 0 is at cell 18", x.piece(arm, 0, 0), 18);
        Check.due("its tip is three to the east", x.piece(arm, 3, 0), 21);
        Check.due("thing(5, 3, 1)", thing, 0);
        Check.due("type *:gp", x.type(0x2a3a6770L, 4), 4);
        Check.due("rules", x.rules(arm), 1);
        Check.due("ticks(2)", x.ticks(2), 0);
        Check.due("ticks(1), the third", x.ticks(1), 1);
        Check.due("told(thing, 0)", x.told(thing, 0), 2);
    }

    private static void textOfRules() {
        ThinkingArms x = new ThinkingArms();
        x.arm(2, 2, 3, 0);
        Check.due("the text that is shown", Check.rules(x, 0, "x & !h & (t0 | t1) : g ; h : p ; w1 : f o1 ; * : s2"), 4);
        Check.due("with nothing near, the last clause", x.finds(0, 2), 3);
        x.thing(4, 3, 1);
        Check.due("the tip feels a thing", x.finds(0, 2), 0);
        Check.due("piece 1 does not", x.finds(0, 1), 3);
        x.ticks(1);
        Check.due("the tip holds it", x.piece(0, 2, 2), 0);
        Check.due("piece 1 remembers", x.piece(0, 1, 1), 2);
        Check.due("the tip would pass it on", x.finds(0, 2), 1);
    }

    private static void namesAllCalls() throws IOException {
        String page = Files.readString(Path.of("README.md"));
        for (java.lang.reflect.Method m : ThinkingArms.class.getDeclaredMethods()) {
            if (java.lang.reflect.Modifier.isPublic(m.getModifiers())) {
                Check.holds("README.md names " + m.getName(), page.contains("`" + m.getName() + "`"));
            }
        }
    }
}

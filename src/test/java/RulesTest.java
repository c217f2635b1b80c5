/** Promises 10, 11 and 15: the tape, texts of rules with their faults, the clause that is found. */
public final class RulesTest {
    public static void main(String[] args) {
        type();
        texts();
        tapeAndRules();
        bounds();
        finds();
        Check.end();
    }

    private static void type() {
        ThinkingArms x = new ThinkingArms();
        x.arm(0, 0, 2, 0);
        Check.due("n 0", x.type('a', 0), ThinkingArms.BAD);
        Check.due("n 9", x.type('a', 9), ThinkingArms.BAD);
        Check.due("n -1", x.type('a', -1), ThinkingArms.BAD);
        Check.due("n wild", x.type('a', Integer.MIN_VALUE), ThinkingArms.BAD);
        Check.due("byte 31", x.type(31, 1), ThinkingArms.BAD);
        Check.due("byte 127", x.type(127, 1), ThinkingArms.BAD);
        Check.due("byte 128", x.type(128, 1), ThinkingArms.BAD);
        Check.due("byte 255", x.type(-1, 1), ThinkingArms.BAD);
        Check.due("a high byte amiss", x.type('a', 2), ThinkingArms.BAD);
        Check.due("byte 8 amiss", x.type(0x8061616161616161L, 8), ThinkingArms.BAD);
        Check.due("nothing came", x.type(32, 1), 1);
        Check.due("byte 126", x.type(126, 1), 2);
        Check.due("higher bytes are not looked at", x.type(0xFF00FF00FF000000L | 'a', 1), 3);
        Check.due("8 bytes", x.type(0x6161616161616161L, 8), 11);
        for (int k = 1; k <= 11; k++) {
            Check.due("on", x.type(0x6161616161616161L, 8), 11 + 8 * k);
        }
        Check.due("one more than 100", x.type(0x6161, 2), ThinkingArms.FULL);
        Check.due("bad and full", x.type(0x6100, 2), ThinkingArms.BAD);
        Check.due("100", x.type('a', 1), 100);
        Check.due("full", x.type('a', 1), ThinkingArms.FULL);
        ThinkingArms y = new ThinkingArms();
        y.arm(0, 0, 2, 0);
        y.type(Check.packed("*:g", 0, 3), 3);
        Check.due("the highest byte first", y.rules(0), 1);
    }

    private static void texts() {
        text("*:f", 1);
        text("x:f;h:g;*:p;w0:d;t3:s0;m2:o3", 6);
        text("x:f;h:g;*:p;w0:d;t3:s0;m2:o3;*:f", -20 - 28);
        text("*:fgpd", 1);
        text("*:fgpds1", -20 - 6);
        text("*:s0o1s2o3", 1);
        text("*:s0o1s2o3;x:f", 2);
        text("", -20);
        text("   ", -23);
        text("f", -20);
        text("*", -21);
        text("*f", -21);
        text("*:", -22);
        text("*:x", -22);
        text("*:;", -22);
        text("*:f;", -24);
        text("*:f;;", -24);
        text("*:f:", -23);
        text("*:f ;  ", -27);
        text("*:s", -23);
        text("*:s4", -23);
        text("*:o", -23);
        text("*:ox", -23);
        text("w", -21);
        text("w4:f", -21);
        text("t:f", -21);
        text("m/:f", -21);
        text("h0:f", -21);
        text("!*:f", 1);
        text("!!*:f", -21);
        text("!:f", -21);
        text("!", -21);
        text("!(!x):f", 1);
        text("(*):f", 1);
        text("():f", -21);
        text("(*:f", -22);
        text("*):f", -21);
        text("(*", -22);
        text("((((*)))):f", 1);
        text("(((((*))))):f", -24);
        text("(((*)&(((*))))):f", -28);
        text("((((*))))|((((*)))):f", 1);
        text("*&*|*&!h:f", 1);
        text("*&:f", -22);
        text("*|:f", -22);
        text("*&|*:f", -22);
        text("&*:f", -20);
        text(" w 1 & ! ( t 2 | x ) : s 3 o 0 ; * : f ", 2);
        text(" w 1 5", -25);
        text("*: f f f f f", -31);
        text("z", -20);
        text("*:F", -22);
    }

    private static void text(String text, int want) {
        ThinkingArms x = new ThinkingArms();
        x.arm(3, 3, 2, 0);
        Check.due("'" + text + "'", Check.rules(x, 0, text), want);
        Check.due("the tape is empty behind '" + text + "'", x.type('a', 1), 1);
    }

    private static void tapeAndRules() {
        ThinkingArms x = new ThinkingArms();
        x.arm(3, 3, 2, 0);
        x.arm(3, 5, 2, 0);
        Check.type(x, "h:f;*:g");
        Check.due("no arm -1", x.rules(-1), ThinkingArms.BAD);
        Check.due("no arm 2", x.rules(2), ThinkingArms.BAD);
        Check.due("no arm, wild", x.rules(Integer.MAX_VALUE), ThinkingArms.BAD);
        Check.due("the tape has stayed", x.rules(0), 2);
        Check.due("rules of this arm", x.finds(0, 1), 1);
        Check.due("not of the other", x.finds(1, 1), ThinkingArms.NONE);
        Check.due("a fault", Check.rules(x, 0, "*:f;h:"), -26);
        Check.due("rules are as they were", x.finds(0, 1), 1);
        Check.due("new rules", Check.rules(x, 0, "*:f"), 1);
        Check.due("they count", x.finds(0, 1), 0);
    }

    /** The longest text, the deepest brackets. */
    private static void bounds() {
        ThinkingArms x = new ThinkingArms();
        x.arm(3, 3, 2, 0);
        StringBuilder most = new StringBuilder("!h");
        for (int k = 0; k < 32; k++) {
            most.append("&!h");
        }
        Check.due("100 bytes", Check.rules(x, 0, most + ":f"), 1);
        Check.due("a long case holds", x.finds(0, 1), 0);
        StringBuilder stars = new StringBuilder("*");
        for (int k = 0; k < 48; k++) {
            stars.append("|*");
        }
        Check.due("99 bytes", Check.rules(x, 0, stars + ":f"), 1);
        Check.due("a test at the tape's end", Check.rules(x, 0, stars + "|*"), -119);
        Check.due("a claim at the tape's end", Check.rules(x, 0, stars + "&!("), -120);
        Check.due("the old rules stay", x.finds(0, 1), 0);
    }

    private static void finds() {
        ThinkingArms x = new ThinkingArms();
        x.arm(3, 3, 3, 0);
        Check.due("no rules", x.finds(0, 1), ThinkingArms.NONE);
        Check.due("piece 0", x.finds(0, 0), ThinkingArms.BAD);
        Check.due("no piece", x.finds(0, 3), ThinkingArms.BAD);
        Check.due("no piece", x.finds(0, -1), ThinkingArms.BAD);
        Check.due("no arm", x.finds(1, 1), ThinkingArms.BAD);
        Check.due("no arm", x.finds(-1, 1), ThinkingArms.BAD);
        claim("x", false, true);
        claim("!x", true, false);
        claim("h", false, false);
        claim("!h", true, true);
        claim("w0", true, true);
        claim("w1", false, false);
        claim("m0", true, true);
        claim("m3", false, false);
        claim("t1", true, true);
        claim("t2", false, true);
        claim("t0", false, false);
        claim("x|t1", true, true);
        claim("x&t1", false, true);
        claim("h&x|w0", true, true);
        claim("w0|h&x", true, true);
        claim("h&(x|w0)", false, false);
        claim("!(x|h)", true, false);
        claim("!(x&h)", true, true);
        claim("x&!(h|w1)|h", false, true);
        claim("!x&!(!(!(!(*))))", true, false);
        claim("h|h|x", false, true);
        claim("x&x&h|!x", true, false);
        Check.rules(x, 0, "h:f;x:g;*:p;*:d");
        Check.due("the first that holds", x.finds(0, 1), 2);
        Check.due("the first that holds", x.finds(0, 2), 1);
    }

    /** Whether a claim holds for piece 1 (cell 28) and the tip (29); things of taste 1 at 20 and 29, of 2 at 30. */
    private static void claim(String test, boolean middle, boolean tip) {
        ThinkingArms x = new ThinkingArms();
        x.arm(3, 3, 3, 0);
        x.thing(4, 2, 1);
        x.thing(5, 3, 1);
        x.thing(6, 3, 2);
        x.thing(3, 2, 0);
        x.thing(6, 4, 0);
        Check.rules(x, 0, test + ":f");
        Check.due(test + " of piece 1", x.finds(0, 1), middle ? 0 : ThinkingArms.NONE);
        Check.due(test + " of the tip", x.finds(0, 2), tip ? 0 : ThinkingArms.NONE);
    }
}

/** Promises 1, 2 and 4 to 9: a new object, walls, arms, things, what is told of them, flips. */
public final class SeaTest {
    private static final int MIN = Integer.MIN_VALUE, MAX = Integer.MAX_VALUE;

    public static void main(String[] args) {
        newObject();
        wall();
        arm();
        thing();
        piece();
        told();
        form();
        flipOfAPiece();
        turnOfATip();
        flipOfACutArm();
        Check.end();
    }

    private static void newObject() {
        ThinkingArms x = new ThinkingArms();
        for (int what = 0; what <= 6; what++) {
            Check.due("new: count " + what, x.count(what), 0);
        }
        Check.due("new: piece", x.piece(0, 0, 0), ThinkingArms.BAD);
        Check.due("new: told", x.told(0, 0), ThinkingArms.BAD);
        Check.due("new: skin", x.skin(3), 3);
        Check.due("new: restore", x.restore(0), ThinkingArms.NONE);
        Check.due("new: restore", x.restore(1), ThinkingArms.NONE);
        for (int s = 0; s < 4; s++) {
            Check.due("new: drop " + s, x.drop(s), ThinkingArms.NULL);
        }
        Check.due("new: type", x.type('x', 1), 1);
        for (int c = 0; c < 64; c++) {
            Check.due("new: wall " + c, x.wall(c % 8, c / 8, false), 0);
        }
    }

    private static void wall() {
        ThinkingArms x = new ThinkingArms();
        Check.due("wall sets", x.wall(0, 0, true), 0);
        Check.due("wall again", x.wall(0, 0, true), 1);
        Check.due("wall ends", x.wall(0, 0, false), 1);
        Check.due("no wall ends", x.wall(0, 0, false), 0);
        Check.due("wall far corner", x.wall(7, 7, true), 0);
        Check.due("walls", x.count(5), 1);
        int[][] bad = {{-1, 0}, {8, 0}, {0, -1}, {0, 8}, {MIN, 0}, {0, MAX}, {MAX, MAX}};
        for (int[] b : bad) {
            Check.due("wall bad", x.wall(b[0], b[1], true), ThinkingArms.BAD);
            Check.due("wall bad", x.wall(b[0], b[1], false), ThinkingArms.BAD);
        }
        x.arm(2, 2, 2, 0);
        x.thing(5, 5, 0);
        Check.due("wall on piece 0", x.wall(2, 2, true), ThinkingArms.NOT);
        Check.due("wall on the tip", x.wall(3, 2, true), ThinkingArms.NOT);
        Check.due("wall on a thing", x.wall(5, 5, true), ThinkingArms.NOT);
        Check.due("no wall on a piece", x.wall(2, 2, false), 0);
        Check.due("no wall on a thing", x.wall(5, 5, false), 0);
        Check.due("walls after", x.count(5), 1);
        x.thing(4, 2, 1);
        Check.rules(x, 0, "*:g");
        x.ticks(1);
        Check.due("held", x.told(1, 0), 1);
        Check.due("wall where a held thing lay", x.wall(4, 2, true), 0);
    }

    private static void arm() {
        ThinkingArms x = new ThinkingArms();
        int[][] bad = {{-1, 0, 2, 0}, {8, 0, 2, 0}, {0, -1, 2, 0}, {0, 8, 2, 0}, {0, 0, 1, 0}, {0, 0, 8, 0}, {0, 0, 2, -1},
            {0, 0, 2, 4}, {0, 0, 3, 16}, {0, 0, 7, 4096}, {0, 0, MIN, 0}, {0, 0, MAX, 0}, {0, 0, 7, MAX}, {0, 0, 7, MIN}, {0, 0, 0, 0}};
        for (int[] b : bad) {
            Check.due("arm bad", x.arm(b[0], b[1], b[2], b[3]), ThinkingArms.BAD);
        }
        Check.due("out to the west", x.arm(0, 0, 2, 2), ThinkingArms.NOT);
        Check.due("out to the north", x.arm(0, 0, 2, 3), ThinkingArms.NOT);
        Check.due("out to the east", x.arm(7, 7, 2, 0), ThinkingArms.NOT);
        Check.due("out to the south", x.arm(7, 7, 2, 1), ThinkingArms.NOT);
        Check.due("back on itself", x.arm(3, 3, 3, 0 + 4 * 2), ThinkingArms.NOT);
        Check.due("a ring", x.arm(3, 3, 5, 0 + 4 * 1 + 16 * 2 + 64 * 3), ThinkingArms.NOT);
        x.wall(4, 4, true);
        Check.due("piece 0 on a wall", x.arm(4, 4, 2, 0), ThinkingArms.NOT);
        Check.due("a later piece on a wall", x.arm(2, 4, 4, 0), ThinkingArms.NOT);
        Check.due("none yet", x.count(0), 0);
        x.thing(0, 3, 0);
        Check.due("the longest, due north, over a thing", x.arm(0, 7, 7, 4095), 0);
        for (int k = 0; k < 7; k++) {
            Check.due("its cells", x.piece(0, k, 0), 8 * (7 - k));
        }
        Check.due("on another arm", x.arm(1, 5, 2, 2), ThinkingArms.NOT);
        Check.due("all sides", x.arm(5, 0, 7, 0 + 4 * 1 + 16 * 1 + 64 * 2 + 256 * 1 + 1024 * 0), 1);
        int[] cells = {5, 6, 14, 22, 21, 29, 30};
        for (int k = 0; k < 7; k++) {
            Check.due("cells by the form", x.piece(1, k, 0), cells[k]);
        }
        Check.due("the third", x.arm(7, 7, 2, 2), 2);
        Check.due("full", x.arm(1, 1, 2, 0), ThinkingArms.FULL);
        Check.due("full, but it can't lie so", x.arm(7, 7, 2, 2), ThinkingArms.NOT);
        Check.due("full, but bad", x.arm(1, 1, 2, 4), ThinkingArms.BAD);
        Check.due("arms", x.count(0), 3);
    }

    private static void thing() {
        ThinkingArms x = new ThinkingArms();
        int[][] bad = {{-1, 0, 0}, {8, 0, 0}, {0, -1, 0}, {0, 8, 0}, {0, 0, -1}, {0, 0, 4}, {MIN, 0, 0}, {0, 0, MAX}};
        for (int[] b : bad) {
            Check.due("thing bad", x.thing(b[0], b[1], b[2]), ThinkingArms.BAD);
        }
        x.wall(1, 1, true);
        x.arm(2, 2, 2, 0);
        Check.due("thing on a wall", x.thing(1, 1, 0), ThinkingArms.NOT);
        Check.due("thing at a piece", x.thing(2, 2, 3), 0);
        Check.due("thing at a thing", x.thing(2, 2, 1), ThinkingArms.NOT);
        for (int k = 1; k < 8; k++) {
            Check.due("thing " + k, x.thing(k, 7, k & 3), k);
        }
        Check.due("full", x.thing(0, 0, 0), ThinkingArms.FULL);
        Check.due("full, but a wall", x.thing(1, 1, 0), ThinkingArms.NOT);
        Check.due("full, but a thing", x.thing(7, 7, 0), ThinkingArms.NOT);
        Check.due("full, but bad", x.thing(7, 7, 4), ThinkingArms.BAD);
        Check.due("things", x.count(1), 8);
        ThinkingArms y = new ThinkingArms();
        y.arm(0, 0, 2, 0);
        y.thing(2, 0, 0);
        Check.rules(y, 0, "*:g");
        y.ticks(1);
        Check.due("thing where a held one lay", y.thing(2, 0, 1), 1);
        Check.due("thing at the piece that holds", y.thing(1, 0, 1), 2);
    }

    private static void piece() {
        ThinkingArms x = new ThinkingArms();
        x.arm(1, 1, 3, 0);
        x.thing(4, 1, 2);
        int[][] bad = {{-1, 0, 0}, {1, 0, 0}, {0, -1, 0}, {0, 3, 0}, {0, 0, -1}, {0, 0, 6}, {MAX, 0, 0}, {0, MIN, 0}, {0, 0, MAX}};
        for (int[] b : bad) {
            Check.due("piece bad", x.piece(b[0], b[1], b[2]), ThinkingArms.BAD);
        }
        int[] atFirst = {9, 0, ThinkingArms.NONE, 0, 0, 0};
        for (int what = 0; what <= 5; what++) {
            Check.due("piece 0 at first, " + what, x.piece(0, 0, what), atFirst[what]);
        }
        Check.due("the tip", x.piece(0, 2, 5), 1);
        Check.due("not the tip", x.piece(0, 1, 5), 0);
        Check.rules(x, 0, "x:gs2o3;*:s1o2");
        x.head(0, 1);
        Check.due("the head's word is not said yet", x.piece(0, 0, 3), 0);
        x.ticks(1);
        int[] tip = {11, 2, 0, 3, 0, 1};
        int[] middle = {10, 1, ThinkingArms.NONE, 2, 0, 0};
        int[] first = {9, 0, ThinkingArms.NONE, 1, 0, 0};
        for (int what = 0; what <= 5; what++) {
            Check.due("tip " + what, x.piece(0, 2, what), tip[what]);
            Check.due("middle " + what, x.piece(0, 1, what), middle[what]);
            Check.due("first " + what, x.piece(0, 0, what), first[what]);
        }
        x.cut(0, 2);
        Check.due("cut", x.piece(0, 2, 4), 1);
        Check.due("not cut", x.piece(0, 1, 4), 0);
        Check.due("the one ahead of the cut is a tip", x.piece(0, 1, 5), 1);
        Check.due("the last one is a tip still", x.piece(0, 2, 5), 1);
        Check.due("what it said in the latest tick stays", x.piece(0, 2, 3), 3);
    }

    private static void told() {
        ThinkingArms x = new ThinkingArms();
        x.arm(0, 0, 2, 0);
        x.arm(1, 4, 3, 0);
        x.thing(4, 4, 2);
        int[][] bad = {{-1, 0}, {1, 0}, {0, -1}, {0, 4}, {MAX, 0}, {0, MIN}};
        for (int[] b : bad) {
            Check.due("told bad", x.told(b[0], b[1]), ThinkingArms.BAD);
        }
        told(x, "lying", 0, 36, 2, ThinkingArms.NONE);
        Check.rules(x, 1, "x&!h:g;x&w0:f;x:p;h&w2:p");
        x.ticks(1);
        told(x, "held", 1, 35, 2, 12);
        x.ticks(1);
        told(x, "held by one that turns", 1, 42, 2, 12);
        Check.rules(x, 1, "x&h:p;h&w2:p");
        x.ticks(1);
        told(x, "held by the next", 1, 34, 2, 11);
        x.head(1, 2);
        x.ticks(2);
        told(x, "eaten", 2, ThinkingArms.NONE, 2, 10);
    }

    private static void told(ThinkingArms x, String name, int how, int cell, int taste, int who) {
        Check.due(name + ": how", x.told(0, 0), how);
        Check.due(name + ": cell", x.told(0, 1), cell);
        Check.due(name + ": taste", x.told(0, 2), taste);
        Check.due(name + ": who", x.told(0, 3), who);
    }

    private static void form() {
        ThinkingArms x = new ThinkingArms();
        Check.due("form bad", x.form(0), ThinkingArms.BAD);
        x.arm(3, 3, 4, 0 + 4 * 1 + 16 * 0);
        Check.due("form as laid", x.form(0), 4);
        x.flip(0, 1);
        Check.due("form behind a flip", x.form(0), 1 + 4 * 0 + 16 * 0);
        x.flip(0, 3);
        Check.due("form behind a turn", x.form(0), 1 + 4 * 0 + 16 * 1);
        Check.due("form bad", x.form(1), ThinkingArms.BAD);
        Check.due("form bad", x.form(-1), ThinkingArms.BAD);
        x.arm(0, 7, 7, 4095);
        Check.due("form due north", x.form(1), 4095);
        x.cut(0, 3);
        Check.due("form of a cut arm", x.form(0), ThinkingArms.NOT);
        Check.due("form of the other", x.form(1), 4095);
    }

    private static void flipOfAPiece() {
        ThinkingArms x = new ThinkingArms();
        x.arm(3, 3, 3, 0 + 4 * 1);
        int[][] bad = {{-1, 1}, {1, 1}, {0, -1}, {0, 3}, {0, 0}, {MAX, 1}, {0, MIN}};
        for (int[] b : bad) {
            Check.due("flip bad", x.flip(b[0], b[1]), ThinkingArms.BAD);
        }
        Check.due("flips over", x.flip(0, 1), 35);
        Check.due("the others stay", x.piece(0, 2, 0), 36);
        Check.due("flips back", x.flip(0, 1), 28);
        x.thing(3, 4, 0);
        Check.due("over to a thing", x.flip(0, 1), 35);
        Check.due("and back", x.flip(0, 1), 28);
        x.arm(2, 4, 2, 2);
        Check.due("beside another arm", x.flip(0, 1), 35);
        Check.due("and back", x.flip(0, 1), 28);
        x.wall(5, 5, true);
        ThinkingArms y = new ThinkingArms();
        y.arm(3, 3, 3, 0 + 4 * 1);
        y.wall(3, 4, true);
        Check.due("a wall is there", y.flip(0, 1), ThinkingArms.NOT);
        y.wall(3, 4, false);
        y.arm(3, 4, 2, 1);
        Check.due("another arm is there", y.flip(0, 1), ThinkingArms.NOT);
        Check.due("it has not moved", y.piece(0, 1, 0), 28);
        ThinkingArms z = new ThinkingArms();
        z.arm(3, 3, 4, 0 + 4 * 1 + 16 * 2);
        Check.due("its own tip is there", z.flip(0, 1), ThinkingArms.NOT);
        ThinkingArms s = new ThinkingArms();
        s.arm(0, 0, 3, 0);
        Check.due("a straight one", s.flip(0, 1), ThinkingArms.NOT);
    }

    private static void turnOfATip() {
        ThinkingArms x = new ThinkingArms();
        x.arm(3, 3, 2, 0);
        Check.due("east to south", x.flip(0, 1), 35);
        Check.due("south to west", x.flip(0, 1), 26);
        Check.due("west to north", x.flip(0, 1), 19);
        Check.due("north to east", x.flip(0, 1), 28);
        x.wall(3, 4, true);
        Check.due("over a wall", x.flip(0, 1), 26);
        x.arm(3, 2, 2, 3);
        Check.due("over an arm", x.flip(0, 1), 28);
        x.wall(2, 3, true);
        Check.due("nowhere to turn", x.flip(0, 1), ThinkingArms.NOT);
        Check.due("it has not moved", x.piece(0, 1, 0), 28);
        ThinkingArms y = new ThinkingArms();
        y.arm(7, 7, 2, 2);
        Check.due("past the sea's end: west to north", y.flip(0, 1), 55);
        Check.due("past the sea's ends: north to west", y.flip(0, 1), 62);
        y.wall(7, 6, true);
        Check.due("in a corner", y.flip(0, 1), ThinkingArms.NOT);
        ThinkingArms z = new ThinkingArms();
        z.arm(0, 0, 2, 0);
        Check.due("the other corner: east to south", z.flip(0, 1), 8);
        Check.due("south to east", z.flip(0, 1), 1);
        ThinkingArms v = new ThinkingArms();
        v.arm(1, 0, 2, 1);
        Check.due("to cell 0", v.flip(0, 1), 0);
        ThinkingArms w = new ThinkingArms();
        w.arm(3, 3, 3, 0);
        w.flip(0, 2);
        Check.due("over piece 0", w.flip(0, 2), 20);
    }

    private static void flipOfACutArm() {
        ThinkingArms x = new ThinkingArms();
        x.arm(1, 3, 6, 0 + 4 * 0 + 16 * 0 + 64 * 0 + 256 * 1);
        x.cut(0, 3);
        Check.due("the first cut one", x.flip(0, 3), ThinkingArms.BAD);
        Check.due("the one ahead turns", x.flip(0, 2), 34);
        Check.due("one ahead of that flips", x.flip(0, 1), 33);
        Check.due("one behind the cut flips", x.flip(0, 4), 36);
        Check.due("the last one turns", x.flip(0, 5), 44);
        ThinkingArms y = new ThinkingArms();
        y.arm(1, 1, 3, 0);
        y.cut(0, 1);
        Check.due("piece 0 is a tip but stays", y.flip(0, 0), ThinkingArms.BAD);
        Check.due("the first cut one", y.flip(0, 1), ThinkingArms.BAD);
        Check.due("the tip about it", y.flip(0, 2), 18);
        ThinkingArms z = new ThinkingArms();
        z.arm(1, 1, 3, 0);
        z.cut(0, 2);
        Check.due("the last one, cut", z.flip(0, 2), ThinkingArms.BAD);
        Check.due("the tip ahead of it", z.flip(0, 1), 17);
    }
}

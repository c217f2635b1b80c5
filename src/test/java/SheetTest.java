/** Promises 3 and 24 to 29: sheets, and what goes from and to them. */
public final class SheetTest {
    private static final int MIN = Integer.MIN_VALUE, MAX = Integer.MAX_VALUE;

    public static void main(String[] args) {
        walls();
        wallsReplaceAll();
        film();
        differs();
        sheet();
        drop();
        item();
        copy();
        copyOntoItself();
        Check.end();
    }

    private static void walls() {
        ThinkingArms x = new ThinkingArms();
        Check.due("no sheet", x.walls(-1), ThinkingArms.BAD);
        Check.due("no sheet", x.walls(4), ThinkingArms.BAD);
        Check.due("nothing", x.walls(0), ThinkingArms.NULL);
        x.sheet(0, 1, 64);
        Check.due("bytes", x.walls(0), ThinkingArms.CAST);
        x.sheet(0, 2, 3);
        Check.due("ints, and few", x.walls(0), ThinkingArms.CAST);
        x.sheet(0, 0, 63);
        Check.due("too few", x.walls(0), ThinkingArms.INDEX);
        x.sheet(0, 0, 0);
        Check.due("too few", x.walls(0), ThinkingArms.INDEX);
        x.sheet(0, 0, 64);
        Check.due("none", x.walls(0), 0);
        x.item(0, 0, 0, 1);
        x.item(0, 0, 10, -5);
        x.item(0, 0, 63, 256);
        Check.due("three", x.walls(0), 3);
        Check.due("by 8 y and x", x.wall(2, 1, true), 1);
        Check.due("the last", x.wall(7, 7, true), 1);
        Check.due("no other", x.wall(1, 2, false), 0);
    }

    private static void wallsReplaceAll() {
        ThinkingArms x = new ThinkingArms();
        x.wall(5, 5, true);
        x.arm(1, 1, 2, 0);
        x.thing(4, 4, 0);
        x.sheet(0, 0, 64);
        x.item(0, 0, 0, 1);
        x.item(0, 0, 10, 1);
        Check.due("a piece is there", x.walls(0), ThinkingArms.NOT);
        Check.due("nothing is changed", x.count(5), 1);
        Check.due("nothing is changed", x.wall(0, 0, false), 0);
        x.item(0, 0, 10, 0);
        x.item(0, 0, 36, 1);
        Check.due("a lying thing is there", x.walls(0), ThinkingArms.NOT);
        x.item(0, 0, 36, 0);
        Check.due("one", x.walls(0), 1);
        Check.due("the old one is gone", x.wall(5, 5, false), 0);
    }

    private static void film() {
        ThinkingArms x = new ThinkingArms();
        x.arm(4, 7, 4, 0);
        x.sheet(0, 1, 6);
        x.sheet(1, 2, 4);
        x.sheet(2, 0, 64);
        int[][] bad = {{-1, 0, 1, 0}, {1, 0, 1, 0}, {0, -1, 1, 0}, {0, 4, 1, 0}, {0, 0, 0, 0}, {0, 0, 3, 0}, {0, 2, 0, 0}, {MAX, 0, 1, 0}, {0, MIN, 1, 0}};
        for (int[] b : bad) {
            Check.due("film bad", x.film(b[0], b[1], b[2], b[3]), ThinkingArms.BAD);
            Check.due("differs bad", x.differs(b[0], b[1], b[2], b[3]), ThinkingArms.BAD);
        }
        Check.due("nothing", x.film(0, 3, 1, 99), ThinkingArms.NULL);
        Check.due("bytes as ints", x.film(0, 0, 2, 99), ThinkingArms.CAST);
        Check.due("ints as bytes", x.film(0, 1, 1, 0), ThinkingArms.CAST);
        Check.due("booleans", x.film(0, 2, 1, 0), ThinkingArms.CAST);
        int[] out = {-1, 3, 6, 64, MIN, MAX};
        for (int i : out) {
            Check.due("out of the row, from " + i, x.film(0, 0, 1, i), ThinkingArms.INDEX);
        }
        Check.due("out of the row", x.film(0, 1, 2, 1), ThinkingArms.INDEX);
        Check.due("as bytes", x.film(0, 0, 1, 2), 4);
        Check.due("as ints", x.film(0, 1, 2, 0), 4);
        Check.due("bytes are there", x.differs(0, 0, 1, 2), ThinkingArms.NONE);
        Check.due("ints are there", x.differs(0, 1, 2, 0), ThinkingArms.NONE);
        x.sheet(3, 2, 64);
        x.item(3, 2, 4, 60);
        x.item(3, 2, 5, 61);
        x.item(3, 2, 6, 62);
        x.item(3, 2, 7, 63);
        x.film(0, 3, 2, 0);
        Check.due("a film writes no more than its pieces", x.differs(0, 3, 2, 4), ThinkingArms.NONE);
        x.drop(3);
        x.film(0, 0, 1, 3);
        Check.due("a film out of the row writes nothing", x.differs(0, 0, 1, 2), ThinkingArms.NONE);
        Check.due("of a cut arm, too", x.cut(0, 1) + x.film(0, 0, 1, 0), 7);
    }

    private static void differs() {
        ThinkingArms x = new ThinkingArms();
        x.arm(4, 4, 3, 0);
        x.sheet(0, 2, 5);
        Check.due("zeros", x.differs(0, 0, 2, 0), 0);
        x.film(0, 0, 2, 1);
        Check.due("all are", x.differs(0, 0, 2, 1), ThinkingArms.NONE);
        x.item(0, 2, 3, 38 + 256);
        Check.due("the last", x.differs(0, 0, 2, 1), 2);
        x.item(0, 2, 2, 0);
        Check.due("the first of two", x.differs(0, 0, 2, 1), 1);
        x.sheet(1, 1, 3);
        x.item(1, 1, 0, 36 + 256);
        x.item(1, 1, 1, 37 - 512);
        x.item(1, 1, 2, 38);
        Check.due("bytes have their lowest bits", x.differs(0, 1, 1, 0), ThinkingArms.NONE);
        Check.due("nothing", x.differs(0, 3, 1, 9), ThinkingArms.NULL);
        Check.due("cast", x.differs(0, 1, 2, 9), ThinkingArms.CAST);
        Check.due("index", x.differs(0, 1, 1, 1), ThinkingArms.INDEX);
        Check.due("index", x.differs(0, 1, 1, -1), ThinkingArms.INDEX);
        Check.due("index", x.differs(0, 1, 1, MAX), ThinkingArms.INDEX);
    }

    private static void sheet() {
        ThinkingArms x = new ThinkingArms();
        int[][] bad = {{-1, 0, 1}, {4, 0, 1}, {0, -1, 1}, {0, 3, 1}, {0, 0, 65}, {0, 0, MAX}, {4, 0, -1}, {0, 3, -1}};
        for (int[] b : bad) {
            Check.due("sheet bad", x.sheet(b[0], b[1], b[2]), ThinkingArms.BAD);
        }
        Check.due("size", x.sheet(0, 0, -1), ThinkingArms.SIZE);
        Check.due("size", x.sheet(0, 0, MIN), ThinkingArms.SIZE);
        Check.due("nothing yet", x.drop(0), ThinkingArms.NULL);
        Check.due("no items", x.sheet(0, 0, 0), 0);
        Check.due("64", x.sheet(3, 2, 64), 64);
        x.item(3, 2, 0, 27);
        x.item(3, 2, 1, 28);
        Check.due("a size below 0 changes nothing", x.sheet(3, 1, -1), ThinkingArms.SIZE);
        x.arm(3, 3, 2, 0);
        Check.due("it stands", x.differs(0, 3, 2, 0), ThinkingArms.NONE);
        Check.due("a new row", x.sheet(3, 2, 64), 64);
        Check.due("of zeros", x.differs(0, 3, 2, 0), 0);
    }

    private static void drop() {
        ThinkingArms x = new ThinkingArms();
        Check.due("no sheet", x.drop(-1), ThinkingArms.BAD);
        Check.due("no sheet", x.drop(4), ThinkingArms.BAD);
        Check.due("nothing", x.drop(0), ThinkingArms.NULL);
        x.sheet(0, 2, 17);
        Check.due("17", x.drop(0), 17);
        Check.due("nothing", x.drop(0), ThinkingArms.NULL);
        Check.due("nothing", x.item(0, 2, 0, 0), ThinkingArms.NULL);
        x.sheet(0, 0, 0);
        Check.due("a row of no items is a row", x.drop(0), 0);
    }

    private static void item() {
        ThinkingArms x = new ThinkingArms();
        x.sheet(0, 2, 3);
        int[][] bad = {{-1, 0}, {4, 0}, {0, -1}, {0, 3}, {MAX, 0}, {0, MIN}};
        for (int[] b : bad) {
            Check.due("item bad", x.item(b[0], b[1], 0, 0), ThinkingArms.BAD);
        }
        Check.due("null", x.item(1, 2, 99, 0), ThinkingArms.NULL);
        Check.due("cast", x.item(0, 1, 99, 0), ThinkingArms.CAST);
        Check.due("cast", x.item(0, 0, 0, 0), ThinkingArms.CAST);
        int[] out = {-1, 3, 64, MIN, MAX};
        for (int i : out) {
            Check.due("index " + i, x.item(0, 2, i, 0), ThinkingArms.INDEX);
        }
        Check.due("the first", x.item(0, 2, 0, MIN), 1);
        Check.due("the last", x.item(0, 2, 2, MAX), 1);
        x.sheet(0, 0, 64);
        int[] not0 = {1, -1, 2, 256, MIN};
        for (int k = 0; k < not0.length; k++) {
            x.item(0, 0, k, not0[k]);
        }
        Check.due("booleans: whether it is not 0", x.walls(0), 5);
        for (int k = 0; k < not0.length; k++) {
            x.item(0, 0, k, 0);
        }
        Check.due("booleans: 0", x.walls(0), 0);
    }

    private static void copy() {
        ThinkingArms x = new ThinkingArms();
        x.arm(3, 3, 3, 0);
        x.sheet(0, 1, 5);
        x.sheet(1, 1, 4);
        x.sheet(2, 2, 5);
        int[][] bad = {{-1, 0}, {4, 0}, {0, -1}, {0, 4}};
        for (int[] b : bad) {
            Check.due("copy bad", x.copy(b[0], 0, b[1], 0, 1), ThinkingArms.BAD);
        }
        Check.due("null from", x.copy(3, 0, 0, 0, 1), ThinkingArms.NULL);
        Check.due("null to", x.copy(0, 0, 3, 0, 1), ThinkingArms.NULL);
        Check.due("null ahead of index", x.copy(0, -1, 3, 0, 1), ThinkingArms.NULL);
        Check.due("cast", x.copy(0, 0, 2, 0, 1), ThinkingArms.CAST);
        Check.due("cast ahead of index", x.copy(0, 9, 2, 0, 1), ThinkingArms.CAST);
        int[][] out = {{-1, 0, 1}, {0, -1, 1}, {0, 0, -1}, {5, 0, 1}, {0, 4, 1}, {0, 0, 5}, {3, 0, 3}, {0, 2, 3}, {MAX, 0, 1}, {0, MAX, 1},
            {1, 1, MAX}, {MAX, MAX, MAX}, {0, 0, MIN}, {6, 0, 0}, {0, 5, 0}};
        for (int[] o : out) {
            Check.due("index " + o[0] + " " + o[1] + " " + o[2], x.copy(0, o[0], 1, o[1], o[2]), ThinkingArms.INDEX);
        }
        Check.due("no items, at the ends", x.copy(0, 5, 1, 4, 0), 0);
        x.film(0, 0, 1, 2);
        Check.due("three", x.copy(0, 2, 1, 1, 3), 3);
        Check.due("they came", x.differs(0, 1, 1, 1), ThinkingArms.NONE);
        Check.due("the first stayed", x.item(1, 1, 0, 0), 1);
        Check.due("the source stands", x.differs(0, 0, 1, 2), ThinkingArms.NONE);
        x.sheet(3, 0, 64);
        x.item(3, 0, 1, 1);
        x.copy(3, 0, 3, 8, 56);
        Check.due("booleans, as if all were taken ahead", x.walls(3), 2);
    }

    private static void copyOntoItself() {
        ThinkingArms x = new ThinkingArms();
        x.arm(3, 3, 3, 0);
        x.sheet(0, 2, 6);
        x.film(0, 0, 2, 0);
        Check.due("up", x.copy(0, 0, 0, 1, 5), 5);
        Check.due("as if taken ahead", x.differs(0, 0, 2, 1), ThinkingArms.NONE);
        Check.due("up two", x.copy(0, 1, 0, 3, 3), 3);
        Check.due("as if taken ahead", x.differs(0, 0, 2, 3), ThinkingArms.NONE);
        Check.due("down", x.copy(0, 3, 0, 2, 3), 3);
        Check.due("as if taken ahead", x.differs(0, 0, 2, 2), ThinkingArms.NONE);
        Check.due("to where it is", x.copy(0, 2, 0, 2, 3), 3);
        Check.due("the same", x.differs(0, 0, 2, 2), ThinkingArms.NONE);
    }
}

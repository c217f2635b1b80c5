import java.util.function.ToIntFunction;

/**
 * Of every promise each answer below 0: the first number refused on either side, the first answer of several in the
 * document's order, and that nothing is changed by it. Numbers are written as the document tells them.
 */
public final class RefusedTest {
    private static final int BAD = -1, NOT = -2, FULL = -3, NONE = -4, NULL = -11, CAST = -12, INDEX = -13, SIZE = -14;
    private static final int MIN = Integer.MIN_VALUE, MAX = Integer.MAX_VALUE;

    public static void main(String[] args) {
        theLooksSeeChanges();
        wall();
        walls();
        arm();
        thing();
        pieceAndTold();
        formAndFlip();
        type();
        rules();
        headSkinTicks();
        findsCutCount();
        reach();
        fewest();
        images();
        film();
        differs();
        sheetAndDrop();
        item();
        copy();
        Check.end();
    }

    /**
     * Arm 0 on 9 .. 12 holds thing 0 by its tip and has eaten thing 3; arm 1 on 33 .. 37 is cut at piece 3 and holds
     * thing 1; thing 2 lies at 59. Sheet 0 has booleans, 1 bytes, 2 ints, 3 nothing; image 0 is kept, image 1 is not;
     * the tape is "h:p;*:".
     */
    private static void life(ThinkingArms x) {
        x.wall(0, 7, true);
        x.wall(7, 0, true);
        x.arm(1, 1, 4, 0);
        x.arm(1, 4, 5, 0);
        x.thing(4, 2, 0);
        x.thing(6, 4, 1);
        x.thing(3, 7, 2);
        x.thing(2, 0, 1);
        Check.rules(x, 0, "x:gs1o2;h:p;t1:gs2o1;*:s3");
        Check.rules(x, 1, "x:g;w1:fo1;*:s1");
        x.head(0, 2);
        x.head(1, 1);
        x.skin(2);
        x.ticks(1);
        x.image(0);
        x.ticks(1);
        x.cut(1, 3);
        x.sheet(0, 0, 64);
        x.item(0, 0, 0, 1);
        x.item(0, 0, 63, 1);
        x.sheet(1, 1, 9);
        x.film(0, 1, 1, 2);
        x.sheet(2, 2, 12);
        x.film(1, 2, 2, 4);
        Check.type(x, "h:p;*:");
    }

    /** As many arms, things, bytes on the tape as there can be. */
    private static void fullLife(ThinkingArms x) {
        x.arm(0, 0, 4, 0);
        x.arm(0, 2, 5, 0);
        x.arm(0, 4, 7, 0);
        for (int t = 0; t < 8; t++) {
            x.thing(t, 7, t & 3);
        }
        for (int k = 0; k < 12; k++) {
            x.type(0x2020202020202020L, 8);
        }
        x.type(0x2A3A6666, 4);
        x.image(0);
        x.image(1);
    }

    private static void refuse(String name, ToIntFunction<ThinkingArms> call, int want) {
        Twins.unchanged(name, RefusedTest::life, call, want);
    }

    private static void refuseFull(String name, ToIntFunction<ThinkingArms> call, int want) {
        Twins.unchanged(name, RefusedTest::fullLife, call, want);
    }

    private static void seen(String name, ToIntFunction<ThinkingArms> call) {
        Twins.changed(name, RefusedTest::life, call);
    }

    /** "What answers so changes nothing" would be an empty test if the looks were blind. */
    private static void theLooksSeeChanges() {
        seen("a wall", x -> x.wall(3, 3, true));
        seen("walls", x -> x.walls(0));
        seen("an arm", x -> x.arm(4, 6, 2, 0));
        seen("a thing", x -> x.thing(7, 7, 0));
        seen("a flip", x -> x.flip(0, 3));
        seen("a byte", x -> x.type(' ', 1));
        seen("rules that stay, but the tape is empty", x -> x.rules(0));
        seen("a head's word", x -> x.head(0, 1));
        seen("skin", x -> x.skin(0));
        seen("a tick", x -> x.ticks(1));
        seen("a cut", x -> x.cut(0, 3));
        seen("an image", x -> x.image(1));
        seen("an image kept anew", x -> x.image(0));
        seen("a restore", x -> x.restore(0));
        seen("a film", x -> x.film(0, 1, 1, 3));
        seen("a new row", x -> x.sheet(3, 0, 0));
        seen("a row dropped", x -> x.drop(2));
        seen("an item", x -> x.item(1, 1, 2, 7));
        seen("items copied", x -> x.copy(1, 2, 1, 1, 4));
    }

    private static void wall() {
        int[] out = {-1, 8, MIN, MAX, 64};
        for (int o : out) {
            refuse("wall x " + o, x -> x.wall(o, 3, true), BAD);
            refuse("wall y " + o, x -> x.wall(3, o, true), BAD);
            refuse("no wall x " + o, x -> x.wall(o, 3, false), BAD);
            refuse("no wall y " + o, x -> x.wall(3, o, false), BAD);
        }
        refuse("wall at piece 0", x -> x.wall(1, 1, true), NOT);
        refuse("wall at a piece between", x -> x.wall(2, 1, true), NOT);
        refuse("wall at a tip that holds", x -> x.wall(4, 1, true), NOT);
        refuse("wall at a cut piece", x -> x.wall(5, 4, true), NOT);
        refuse("wall at a lying thing", x -> x.wall(3, 7, true), NOT);
        refuse("no wall where none is, at a piece", x -> x.wall(1, 1, false), 0);
        refuse("no wall where none is, at a thing", x -> x.wall(3, 7, false), 0);
        refuse("a wall where one is", x -> x.wall(0, 7, true), 1);
    }

    private static void walls() {
        refuse("walls of sheet -1", x -> x.walls(-1), BAD);
        refuse("walls of sheet 4", x -> x.walls(4), BAD);
        refuse("walls of sheet MIN", x -> x.walls(MIN), BAD);
        refuse("walls of sheet MAX", x -> x.walls(MAX), BAD);
        refuse("walls of nothing", x -> x.walls(3), NULL);
        refuse("walls of bytes, too few of them", x -> x.walls(1), CAST);
        refuse("walls of ints, too few of them", x -> x.walls(2), CAST);
        wallsBehind("64 bytes, one at a piece", 1, 64, 9, CAST);
        wallsBehind("64 ints, one at a piece", 2, 64, 9, CAST);
        wallsBehind("63 booleans, one at a piece", 0, 63, 9, INDEX);
        wallsBehind("no booleans", 0, 0, 9, INDEX);
        wallsBehind("one at piece 0", 0, 64, 9, NOT);
        wallsBehind("one at a tip", 0, 64, 12, NOT);
        wallsBehind("one at a cut tip", 0, 64, 37, NOT);
        wallsBehind("one at a lying thing", 0, 64, 59, NOT);
    }

    private static void wallsBehind(String name, int lane, int n, int cell, int want) {
        Twins.unchanged("walls: " + name, x -> {
            life(x);
            x.sheet(3, lane, n);
            x.item(3, lane, cell, 1);
        }, x -> x.walls(3), want);
    }

    private static void arm() {
        int[] out = {-1, 8, MIN, MAX};
        for (int o : out) {
            refuse("arm x " + o, x -> x.arm(o, 6, 2, 0), BAD);
            refuse("arm y " + o, x -> x.arm(6, o, 2, 0), BAD);
            refuse("arm pieces " + o, x -> x.arm(3, 6, o, 0), BAD);
            refuse("arm pieces and form " + o, x -> x.arm(3, 6, o, o), BAD);
        }
        refuse("arm pieces 0", x -> x.arm(3, 6, 0, 0), BAD);
        refuse("arm pieces 1", x -> x.arm(3, 6, 1, 0), BAD);
        int most = 1;
        for (int pieces = 2; pieces <= 7; pieces++) {
            int n = pieces, beyond = most *= 4;
            refuse("form -1 of " + n, x -> x.arm(3, 6, n, -1), BAD);
            refuse("form " + beyond + " of " + n, x -> x.arm(3, 6, n, beyond), BAD);
            refuse("form MIN of " + n, x -> x.arm(3, 6, n, MIN), BAD);
            refuse("form MAX of " + n, x -> x.arm(3, 6, n, MAX), BAD);
        }
        refuse("arm at a wall", x -> x.arm(0, 7, 2, 0), NOT);
        refuse("arm to a wall", x -> x.arm(1, 7, 2, 2), NOT);
        refuse("arm at another", x -> x.arm(1, 1, 2, 1), NOT);
        refuse("arm to another", x -> x.arm(0, 1, 2, 0), NOT);
        refuse("arm at a cut piece", x -> x.arm(5, 4, 2, 1), NOT);
        refuse("arm out of the sea", x -> x.arm(7, 6, 2, 0), NOT);
        refuse("arm back on itself", x -> x.arm(3, 6, 3, 8), NOT);
        refuse("bad ahead of not", x -> x.arm(0, 7, 2, 4), BAD);
        refuseFull("full", x -> x.arm(0, 6, 2, 0), FULL);
        refuseFull("not ahead of full", x -> x.arm(0, 0, 2, 1), NOT);
        refuseFull("not ahead of full, out of the sea", x -> x.arm(0, 6, 2, 2), NOT);
        refuseFull("bad ahead of full", x -> x.arm(0, 6, 8, 0), BAD);
        refuseFull("bad ahead of not and full", x -> x.arm(0, 0, 2, -1), BAD);
    }

    private static void thing() {
        int[] out = {-1, 8, MIN, MAX};
        for (int o : out) {
            refuse("thing x " + o, x -> x.thing(o, 6, 0), BAD);
            refuse("thing y " + o, x -> x.thing(6, o, 0), BAD);
        }
        int[] tastes = {-1, 4, MIN, MAX};
        for (int t : tastes) {
            refuse("taste " + t, x -> x.thing(6, 6, t), BAD);
        }
        refuse("thing at a wall", x -> x.thing(7, 0, 0), NOT);
        refuse("thing at a lying one", x -> x.thing(3, 7, 0), NOT);
        refuse("bad ahead of not", x -> x.thing(7, 0, 4), BAD);
        refuseFull("full", x -> x.thing(6, 6, 0), FULL);
        refuseFull("not ahead of full", x -> x.thing(7, 7, 0), NOT);
        refuseFull("bad ahead of full", x -> x.thing(6, 6, -1), BAD);
        refuseFull("bad ahead of not and full", x -> x.thing(7, 7, 4), BAD);
        Twins.unchanged("a wall, not ahead of full", x -> {
            fullLife(x);
            x.wall(6, 6, true);
        }, x -> x.thing(6, 6, 0), NOT);
        Twins.unchanged("full, though one is eaten", x -> {
            life(x);
            for (int t = 4; t < 8; t++) {
                x.thing(t, 6, 0);
            }
        }, x -> x.thing(0, 6, 0), FULL);
    }

    private static void pieceAndTold() {
        int[][] pieces = {{-1, 0, 0}, {2, 0, 0}, {MIN, 0, 0}, {MAX, 0, 0}, {0, -1, 0}, {0, 4, 0}, {1, 5, 0}, {0, MIN, 0}, {0, MAX, 0},
            {0, 0, -1}, {0, 0, 6}, {0, 0, MIN}, {0, 0, MAX}};
        for (int[] p : pieces) {
            refuse("piece " + p[0] + " " + p[1] + " " + p[2], x -> x.piece(p[0], p[1], p[2]), BAD);
        }
        int[][] things = {{-1, 0}, {4, 0}, {MIN, 0}, {MAX, 0}, {0, -1}, {0, 4}, {0, MIN}, {0, MAX}};
        for (int[] t : things) {
            refuse("told " + t[0] + " " + t[1], x -> x.told(t[0], t[1]), BAD);
        }
        refuseFull("no fourth arm", x -> x.piece(3, 0, 0), BAD);
        refuseFull("no eighth piece", x -> x.piece(2, 7, 0), BAD);
        refuseFull("no ninth thing", x -> x.told(8, 0), BAD);
        refuse("none held", x -> x.piece(0, 1, 2), NONE);
        refuse("eaten: no cell", x -> x.told(3, 1), NONE);
        refuse("lying: nobody's", x -> x.told(2, 3), NONE);
    }

    private static void formAndFlip() {
        int[] arms = {-1, 2, MIN, MAX};
        for (int a : arms) {
            refuse("form of arm " + a, x -> x.form(a), BAD);
            refuse("flip of arm " + a, x -> x.flip(a, 1), BAD);
        }
        refuse("form of a cut arm", x -> x.form(1), NOT);
        int[] pieces = {-1, 0, 4, MIN, MAX};
        for (int k : pieces) {
            refuse("flip of piece " + k, x -> x.flip(0, k), BAD);
        }
        refuse("flip of a first cut one", x -> x.flip(1, 3), BAD);
        refuse("flip of a straight one", x -> x.flip(0, 2), NOT);
        Twins.unchanged("piece 0, a tip by the cut", x -> {
            life(x);
            x.cut(0, 1);
        }, x -> x.flip(0, 0), BAD);
        Twins.unchanged("a tip that can't turn", x -> {
            life(x);
            x.wall(3, 0, true);
            x.wall(3, 2, true);
        }, x -> x.flip(0, 3), NOT);
    }

    private static void type() {
        int[] counts = {0, -1, 9, MIN, MAX};
        for (int n : counts) {
            refuse("type of " + n, x -> x.type(0x6161616161616161L, n), BAD);
        }
        int[] bytes = {0, 31, 127, 128, 160, 255};
        for (int n = 1; n <= 8; n++) {
            for (int place = 0; place < n; place++) {
                int count = n, shift = 8 * place;
                for (int b : bytes) {
                    long w = 0x6161616161616161L & ~(255L << shift) | (long) b << shift;
                    refuse("byte " + b + " at " + place + " of " + n, x -> x.type(w, count), BAD);
                }
            }
        }
        refuseFull("a byte more than 100", x -> x.type('a', 1), FULL);
        refuseFull("eight more", x -> x.type(0x6161616161616161L, 8), FULL);
        refuseFull("bad ahead of full, a byte", x -> x.type(31, 1), BAD);
        refuseFull("bad ahead of full, n", x -> x.type('a', 0), BAD);
        Twins.unchanged("two bytes where one is free", x -> {
            for (int k = 0; k < 11; k++) {
                x.type(0x2020202020202020L, 8);
            }
            x.type(0x2020202020202020L, 7);
            x.type(0x20202020L, 4);
            x.arm(0, 0, 2, 0);
        }, x -> x.type(0x6161, 2), FULL);
    }

    private static void rules() {
        int[] arms = {-1, 2, MIN, MAX};
        for (int a : arms) {
            refuse("rules of arm " + a + ", a faulty tape stays", x -> x.rules(a), BAD);
            Twins.unchanged("rules of arm " + a + ", a good tape stays", x -> {
                life(x);
                x.type('g', 1);
            }, x -> x.rules(a), BAD);
        }
        refuseFull("rules of arm 3", x -> x.rules(3), BAD);
        ThinkingArms x = new ThinkingArms();
        life(x);
        Check.due("a fault, the end", x.rules(0), -26);
        Check.due("the tape is empty behind a fault", x.type('a', 1), 1);
        Check.due("the rules are as they were", x.finds(0, 1), 3);
        Check.due("the rules are as they were", x.finds(0, 3), 0);
    }

    private static void headSkinTicks() {
        int[] arms = {-1, 2, MIN, MAX};
        int[] digits = {-1, 4, MIN, MAX};
        for (int k = 0; k < 4; k++) {
            int a = arms[k], d = digits[k];
            refuse("head of arm " + a, x -> x.head(a, 0), BAD);
            refuse("head's word " + d, x -> x.head(0, d), BAD);
            refuse("skin " + d, x -> x.skin(d), BAD);
        }
        int[] counts = {0, -1, 61, MIN, MAX};
        for (int n : counts) {
            refuse("ticks " + n, x -> x.ticks(n), BAD);
        }
    }

    private static void findsCutCount() {
        int[][] pieces = {{-1, 1}, {2, 1}, {MIN, 1}, {MAX, 1}, {0, -1}, {0, 0}, {0, 4}, {1, 5}, {1, 0}, {0, MIN}, {0, MAX}};
        for (int[] p : pieces) {
            refuse("finds " + p[0] + " " + p[1], x -> x.finds(p[0], p[1]), BAD);
            refuse("cut " + p[0] + " " + p[1], x -> x.cut(p[0], p[1]), BAD);
        }
        refuseFull("finds by no rules", x -> x.finds(0, 1), NONE);
        refuseFull("bad ahead of none", x -> x.finds(0, 0), BAD);
        for (int k = 1; k < 5; k++) {
            int piece = k;
            refuse("cut again at " + k, x -> x.cut(1, piece), NOT);
        }
        int[] whats = {-1, 7, MIN, MAX};
        for (int what : whats) {
            refuse("count " + what, x -> x.count(what), BAD);
        }
    }

    private static void reach() {
        int[] arms = {-1, 2, MIN, MAX};
        for (int a : arms) {
            refuse("forms of arm " + a, x -> x.forms(a), BAD);
            refuse("reach of arm " + a, x -> x.reach(a), BAD);
            refuse("far of arm " + a, x -> x.far(a, 0, 0), BAD);
        }
        int[] out = {-1, 8, MIN, MAX};
        for (int o : out) {
            refuse("far x " + o, x -> x.far(0, o, 0), BAD);
            refuse("far y " + o, x -> x.far(0, 0, o), BAD);
            refuse("bad ahead of cut, x " + o, x -> x.far(1, o, 0), BAD);
            refuse("bad ahead of cut, y " + o, x -> x.far(1, 0, o), BAD);
        }
        refuse("forms of a cut arm", x -> x.forms(1), NOT);
        refuse("reach of a cut arm", x -> x.reach(1), NOT);
        refuse("far of a cut arm, where its tip is", x -> x.far(1, 5, 4), NOT);
        refuse("far of a cut arm, where it never comes", x -> x.far(1, 7, 7), NOT);
        refuse("far where it never comes", x -> x.far(0, 7, 7), NONE);
        refuse("far where a wall is", x -> x.far(0, 7, 0), NONE);
        refuse("far where it is", x -> x.far(0, 4, 1), 0);
        // east-east-east, -south; east-south-east, -west; south-east-east, -north
        refuseFull("all is as it was behind forms", x -> x.forms(0), 6);
        refuseFull("all is as it was behind reach", x -> x.reach(0), 4);
        refuseFull("all is as it was behind far", x -> x.far(0, 2, 1), 1);
    }

    private static void fewest() {
        int[][] bad = {{-1, 0, 5, 0}, {2, 0, 5, 0}, {MIN, 0, 5, 0}, {MAX, 0, 5, 0}, {0, -1, 5, 0}, {0, 4, 5, 0}, {0, MIN, 5, 0},
            {0, MAX, 5, 0}, {0, 0, 0, 0}, {0, 0, -1, 0}, {0, 0, 21, 0}, {0, 0, MIN, 0}, {0, 0, MAX, 0}, {0, 0, 5, -1}, {0, 0, 5, 5},
            {0, 0, 5, MIN}, {0, 0, 5, MAX}};
        for (int[] b : bad) {
            refuse("fewest " + b[0] + " " + b[1] + " " + b[2] + " " + b[3], x -> x.fewest(b[0], b[1], b[2], b[3]), BAD);
        }
        for (int i = 0; i <= 4; i++) {
            int what = i;
            refuse("fewest of an eaten one, " + i, x -> x.fewest(0, 3, 20, what), NOT);
            refuse("fewest, none, " + i, x -> x.fewest(0, 2, 20, what), NONE);
        }
        refuse("bad ahead of eaten, n", x -> x.fewest(0, 3, 21, 0), BAD);
        refuse("bad ahead of eaten, i", x -> x.fewest(0, 3, 5, 5), BAD);
        refuse("bad ahead of none", x -> x.fewest(0, 2, 0, 0), BAD);
        int[] words = {2, 1, 2, BAD, BAD};
        for (int i = 0; i <= 4; i++) {
            int what = i;
            Twins.unchanged("two words, " + i, x -> {
                life(x);
                x.rules(0);
                Check.rules(x, 0, "x:o1;w1&!h:s1;w2&m1:o2");
                x.arm(3, 6, 2, 0);
                x.thing(5, 6, 0);
                Check.rules(x, 2, "w1:g;w2:p");
            }, x -> x.fewest(2, 4, 20, what), words[what]);
        }
    }

    private static void images() {
        int[] out = {-1, 2, MIN, MAX};
        for (int n : out) {
            refuse("image " + n, x -> x.image(n), BAD);
            refuse("restore " + n, x -> x.restore(n), BAD);
        }
        refuse("none was kept", x -> x.restore(1), NONE);
    }

    private static void film() {
        int[][] bad = {{-1, 1, 1, 0}, {2, 1, 1, 0}, {MIN, 1, 1, 0}, {MAX, 1, 1, 0}, {0, -1, 1, 0}, {0, 4, 1, 0}, {0, MIN, 1, 0},
            {0, MAX, 1, 0}, {0, 1, 0, 0}, {0, 1, 3, 0}, {0, 1, -1, 0}, {0, 1, MIN, 0}, {0, 1, MAX, 0}, {0, 0, 0, 0},
            {2, 3, 1, 0}, {0, 3, 0, 0}, {2, 1, 2, 99}};
        for (int[] b : bad) {
            refuse("film " + b[0] + " " + b[1] + " " + b[2] + " " + b[3], x -> x.film(b[0], b[1], b[2], b[3]), BAD);
        }
        refuse("film to nothing, index amiss", x -> x.film(0, 3, 1, -1), NULL);
        refuse("film to nothing", x -> x.film(0, 3, 2, 0), NULL);
        refuse("film to booleans as bytes", x -> x.film(0, 0, 1, 0), CAST);
        refuse("film to booleans as ints", x -> x.film(0, 0, 2, 0), CAST);
        refuse("film to bytes as ints, index amiss", x -> x.film(0, 1, 2, -1), CAST);
        refuse("film to ints as bytes, index amiss", x -> x.film(0, 2, 1, 99), CAST);
        int[] from = {-1, 6, 8, 9, 10, MIN, MAX, MAX - 3, MAX - 4, MIN + 5};
        for (int i : from) {
            refuse("film from " + i, x -> x.film(0, 1, 1, i), INDEX);
        }
        refuse("film of five from 8 of 12", x -> x.film(1, 2, 2, 8), INDEX);
        Twins.unchanged("film to a row of no items", x -> {
            life(x);
            x.sheet(3, 1, 0);
        }, x -> x.film(0, 3, 1, 0), INDEX);
    }

    private static void differs() {
        int[][] bad = {{-1, 1, 1, 2}, {2, 1, 1, 2}, {MIN, 1, 1, 2}, {MAX, 1, 1, 2}, {0, -1, 1, 2}, {0, 4, 1, 2}, {0, MIN, 1, 2},
            {0, MAX, 1, 2}, {0, 1, 0, 2}, {0, 1, 3, 2}, {0, 1, -1, 2}, {0, 1, MIN, 2}, {0, 1, MAX, 2}, {0, 0, 0, 2},
            {2, 3, 1, 2}, {0, 3, 0, 2}, {2, 1, 2, 99}};
        for (int[] b : bad) {
            refuse("differs " + b[0] + " " + b[1] + " " + b[2] + " " + b[3], x -> x.differs(b[0], b[1], b[2], b[3]), BAD);
        }
        refuse("differs from nothing, index amiss", x -> x.differs(0, 3, 1, -1), NULL);
        refuse("differs from booleans", x -> x.differs(0, 0, 1, 0), CAST);
        refuse("differs from bytes as ints, index amiss", x -> x.differs(0, 1, 2, -1), CAST);
        refuse("differs from ints as bytes, index amiss", x -> x.differs(0, 2, 1, 99), CAST);
        int[] from = {-1, 6, 8, 9, 10, MIN, MAX, MAX - 3, MAX - 4, MIN + 5};
        for (int i : from) {
            refuse("differs from " + i, x -> x.differs(0, 1, 1, i), INDEX);
        }
        refuse("all are", x -> x.differs(0, 1, 1, 2), NONE);
        refuse("the first is not", x -> x.differs(0, 1, 1, 5), 0);
    }

    private static void sheetAndDrop() {
        int[] sheets = {-1, 4, MIN, MAX};
        for (int s : sheets) {
            refuse("sheet " + s, x -> x.sheet(s, 0, 1), BAD);
            refuse("sheet " + s + ", bad ahead of size", x -> x.sheet(s, 0, -1), BAD);
            refuse("drop " + s, x -> x.drop(s), BAD);
        }
        int[] lanes = {-1, 3, MIN, MAX};
        for (int lane : lanes) {
            refuse("lane " + lane, x -> x.sheet(1, lane, 1), BAD);
            refuse("lane " + lane + ", bad ahead of size", x -> x.sheet(1, lane, -1), BAD);
        }
        for (int lane = 0; lane < 3; lane++) {
            int as = lane;
            refuse("65 of lane " + lane, x -> x.sheet(1, as, 65), BAD);
            refuse("MAX of lane " + lane, x -> x.sheet(1, as, MAX), BAD);
            refuse("-1 of lane " + lane, x -> x.sheet(1, as, -1), SIZE);
            refuse("MIN of lane " + lane, x -> x.sheet(1, as, MIN), SIZE);
            refuse("-1 of lane " + lane + " where nothing is", x -> x.sheet(3, as, -1), SIZE);
        }
        refuse("drop of nothing", x -> x.drop(3), NULL);
    }

    private static void item() {
        int[] out = {-1, 4, MIN, MAX};
        for (int o : out) {
            refuse("item of sheet " + o, x -> x.item(o, 1, 2, 7), BAD);
        }
        int[] lanes = {-1, 3, MIN, MAX};
        for (int lane : lanes) {
            refuse("item of lane " + lane, x -> x.item(1, lane, 2, 7), BAD);
            refuse("item of lane " + lane + ", bad ahead of null", x -> x.item(3, lane, 2, 7), BAD);
        }
        for (int lane = 0; lane < 3; lane++) {
            int as = lane;
            refuse("item of nothing, index amiss", x -> x.item(3, as, -1, 7), NULL);
            for (int s = 0; s < 3; s++) {
                int sheet = s;
                refuse("item of sheet " + s + " as lane " + lane + ", index amiss", x -> x.item(sheet, as, -1, 7), s == lane ? INDEX : CAST);
            }
        }
        int[] from = {-1, 9, 10, 64, MIN, MAX};
        for (int i : from) {
            refuse("item " + i + " of 9", x -> x.item(1, 1, i, 7), INDEX);
        }
        refuse("item 64 of 64", x -> x.item(0, 0, 64, 0), INDEX);
        refuse("item 12 of 12", x -> x.item(2, 2, 12, 0), INDEX);
    }

    private static void copy() {
        int[] out = {-1, 4, MIN, MAX};
        for (int o : out) {
            refuse("copy from sheet " + o, x -> x.copy(o, 2, 1, 0, 4), BAD);
            refuse("copy to sheet " + o, x -> x.copy(1, 2, o, 0, 4), BAD);
            refuse("bad ahead of null, from " + o, x -> x.copy(o, 2, 3, 0, 4), BAD);
            refuse("bad ahead of null, to " + o, x -> x.copy(3, 2, o, 0, 4), BAD);
        }
        refuse("from nothing, index amiss", x -> x.copy(3, -1, 1, 0, 4), NULL);
        refuse("to nothing, index amiss", x -> x.copy(1, -1, 3, 0, 4), NULL);
        refuse("from nothing to itself", x -> x.copy(3, 0, 3, 0, 0), NULL);
        refuse("bytes to ints, index amiss", x -> x.copy(1, 2, 2, -1, 4), CAST);
        refuse("ints to bytes, no items", x -> x.copy(2, 0, 1, 0, 0), CAST);
        refuse("bytes to booleans", x -> x.copy(1, 2, 0, 0, 4), CAST);
        refuse("booleans to ints", x -> x.copy(0, 0, 2, 0, 4), CAST);
        int[][] amiss = {{-1, 0, 4}, {0, -1, 4}, {2, 0, -1}, {6, 0, 4}, {0, 6, 4}, {0, 0, 10}, {9, 0, 1}, {0, 9, 1}, {10, 0, 0}, {0, 10, 0},
            {-1, 0, 0}, {0, -1, 0}, {MAX, 0, 1}, {0, MAX, 1}, {1, 1, MAX}, {MAX, MAX, MAX}, {MIN, 0, 1}, {0, MIN, 1}, {0, 0, MIN},
            {MIN, MIN, MIN}, {1, 0, MAX}, {MAX, 0, 0}};
        for (int[] a : amiss) {
            refuse("copy " + a[0] + " " + a[1] + " " + a[2], x -> x.copy(1, a[0], 1, a[1], a[2]), INDEX);
        }
        refuse("none, at the ends", x -> x.copy(1, 9, 1, 9, 0), 0);
        refuse("all to where they are", x -> x.copy(1, 0, 1, 0, 9), 9);
    }
}

/** Promises 18 to 20: forms, the cells that a tip can be brought to, in how many moves. */
public final class ReachTest {
    public static void main(String[] args) {
        refused();
        twoPieces();
        threePieces();
        othersAsTheyAre();
        allIsAsItWas();
        longestArm();
        alike();
        corridor();
        Check.end();
    }

    private static void refused() {
        ThinkingArms x = new ThinkingArms();
        Check.due("no arm", x.forms(0), ThinkingArms.BAD);
        Check.due("no arm", x.reach(0), ThinkingArms.BAD);
        Check.due("no arm", x.far(0, 0, 0), ThinkingArms.BAD);
        x.arm(0, 0, 2, 0);
        Check.due("no arm", x.forms(-1), ThinkingArms.BAD);
        Check.due("no arm", x.reach(Integer.MAX_VALUE), ThinkingArms.BAD);
        int[][] bad = {{-1, 0, 0}, {1, 0, 0}, {0, -1, 0}, {0, 8, 0}, {0, 0, -1}, {0, 0, 8}, {0, Integer.MIN_VALUE, 0}, {0, 0, Integer.MAX_VALUE}};
        for (int[] b : bad) {
            Check.due("far bad", x.far(b[0], b[1], b[2]), ThinkingArms.BAD);
        }
        x.cut(0, 1);
        Check.due("cut", x.forms(0), ThinkingArms.NOT);
        Check.due("cut", x.reach(0), ThinkingArms.NOT);
        Check.due("cut", x.far(0, 0, 0), ThinkingArms.NOT);
        Check.due("bad ahead of cut", x.far(0, 8, 0), ThinkingArms.BAD);
    }

    private static void twoPieces() {
        ThinkingArms x = new ThinkingArms();
        x.arm(3, 3, 2, 0);
        Check.due("four sides", x.forms(0), 4);
        Check.due("four cells", x.reach(0), 4);
        Check.due("where it is", x.far(0, 4, 3), 0);
        Check.due("a turn to any side", x.far(0, 3, 4), 1);
        Check.due("a turn to any side", x.far(0, 2, 3), 1);
        Check.due("a turn to any side", x.far(0, 3, 2), 1);
        Check.due("piece 0's cell", x.far(0, 3, 3), ThinkingArms.NONE);
        Check.due("too far", x.far(0, 5, 3), ThinkingArms.NONE);
        x.wall(3, 4, true);
        Check.due("a wall", x.forms(0), 3);
        Check.due("a wall", x.far(0, 3, 4), ThinkingArms.NONE);
        x.thing(2, 3, 0);
        Check.due("a thing is no hindrance", x.far(0, 2, 3), 1);
        ThinkingArms z = new ThinkingArms();
        z.arm(1, 0, 2, 0);
        Check.due("cell 0", z.far(0, 0, 0), 1);
        ThinkingArms four = new ThinkingArms();
        four.arm(3, 3, 4, 0);
        Check.due("four pieces, none on another", four.forms(0), 36);
        Check.due("their cells", four.reach(0), 16);
        ThinkingArms y = new ThinkingArms();
        y.arm(7, 7, 2, 2);
        Check.due("in a corner", y.forms(0), 2);
        Check.due("in a corner", y.reach(0), 2);
        y.wall(7, 6, true);
        Check.due("its own alone", y.forms(0), 1);
        Check.due("its own cell alone", y.reach(0), 1);
    }

    /** In the open each of the 12 forms, 8 cells; to the far side by turning and flipping round. */
    private static void threePieces() {
        ThinkingArms x = new ThinkingArms();
        x.arm(3, 3, 3, 0);
        Check.due("forms", x.forms(0), 12);
        Check.due("cells", x.reach(0), 8);
        int[][] far = {{5, 3, 0}, {4, 4, 1}, {4, 2, 1}, {3, 5, 3}, {3, 1, 3}, {2, 4, 3}, {2, 2, 3}, {1, 3, 5}};
        for (int[] f : far) {
            Check.due("far " + f[0] + " " + f[1], x.far(0, f[0], f[1]), f[2]);
        }
        Check.due("beside piece 0", x.far(0, 4, 3), ThinkingArms.NONE);
        x.wall(4, 2, true);
        x.wall(2, 2, true);
        Check.due("north is shut off but for the way round", x.far(0, 3, 1), ThinkingArms.NONE);
        Check.due("the south way stands", x.far(0, 1, 3), 5);
    }

    private static void othersAsTheyAre() {
        ThinkingArms x = new ThinkingArms();
        x.arm(3, 3, 3, 0);
        x.arm(4, 4, 2, 0);
        x.arm(4, 2, 2, 0);
        Check.due("shut in by arms", x.forms(0), 1);
        Check.due("shut in by arms", x.reach(0), 1);
        x.flip(1, 1);
        Check.due("still", x.forms(0), 1);
        ThinkingArms y = new ThinkingArms();
        y.arm(3, 3, 3, 0);
        y.arm(4, 2, 2, 0);
        Check.due("the south way is there", y.far(0, 1, 3), 5);
        Check.due("and round to the north", y.far(0, 3, 1), 7);
        Check.due("but not the corner", y.far(0, 4, 2), ThinkingArms.NONE);
    }

    private static void allIsAsItWas() {
        ThinkingArms x = new ThinkingArms();
        x.arm(3, 3, 3, 0);
        x.forms(0);
        x.far(0, 1, 3);
        Check.due("its form", x.form(0), 0);
        Check.due("its tip", x.piece(0, 2, 0), 29);
        Check.due("now", x.far(0, 5, 3), 0);
        x.flip(0, 2);
        Check.due("from the new form", x.far(0, 5, 3), 1);
        x.wall(5, 3, true);
        Check.due("a new wall", x.far(0, 5, 3), ThinkingArms.NONE);
        x.wall(5, 3, false);
        Check.due("none again", x.far(0, 5, 3), 1);
        x.arm(5, 3, 2, 0);
        Check.due("a new arm", x.far(0, 5, 3), ThinkingArms.NONE);
        Check.due("its own reach", x.far(1, 5, 2), 1);
        Check.due("and the first's again", x.far(0, 5, 3), ThinkingArms.NONE);
    }

    /** A search must not be taken for another one's that is alike but for one thing. */
    private static void alike() {
        ThinkingArms x = new ThinkingArms();
        x.arm(0, 0, 2, 0);
        x.arm(3, 3, 2, 0);
        Check.due("in the corner", x.forms(0), 2);
        Check.due("in the open, of the same form", x.forms(1), 4);
        Check.due("in the corner", x.reach(0), 2);
        ThinkingArms y = new ThinkingArms();
        y.image(0);
        y.arm(3, 3, 4, 0 + 4 * 1 + 16 * 2);
        Check.due("its tip", y.far(0, 3, 4), 0);
        y.restore(0);
        y.arm(3, 3, 4, 1 + 4 * 0 + 16 * 3);
        Check.due("on the same cells the other way round", y.far(0, 4, 3), 0);
        Check.due("no tip there now", y.far(0, 3, 4) > 0 ? 1 : 0, 1);
    }

    /** In a sea this wide a long arm in the middle comes to cells of one colour of the board alone. */
    private static void longestArm() {
        ThinkingArms x = new ThinkingArms();
        x.arm(1, 1, 7, 0);
        int cells = 0;
        for (int c = 0; c < 64; c++) {
            int far = x.far(0, c % 8, c / 8);
            boolean other = (c % 8 + c / 8) % 2 != 0;
            Check.holds("no cell of the other colour, " + c, !other || far == ThinkingArms.NONE);
            Check.holds("not beyond six steps, " + c, Math.abs(c % 8 - 1) + Math.abs(c / 8 - 1) <= 6 || far == ThinkingArms.NONE);
            cells += far >= 0 ? 1 : 0;
        }
        Check.due("as many as reach tells", x.reach(0), cells);
        Check.holds("forms at most all that touch themselves nowhere", x.forms(0) <= 780);
    }

    /** In a corridor one cell wide a straight arm can't do anything but at its open end. */
    private static void corridor() {
        ThinkingArms x = new ThinkingArms();
        x.sheet(0, 0, 64);
        for (int c = 0; c < 64; c++) {
            x.item(0, 0, c, c / 8 == 2 || c / 8 == 4 ? 1 : 0);
        }
        x.walls(0);
        x.arm(0, 3, 7, 0);
        Check.due("shut in", x.forms(0), 1);
        x.wall(6, 4, false);
        Check.due("a hole beside the tip's cell", x.forms(0), 1);
        x.wall(5, 4, false);
        Check.due("a hole to turn to", x.forms(0), 2);
        Check.due("it can be there", x.far(0, 5, 4), 1);
        Check.due("both cells", x.reach(0), 2);
    }
}

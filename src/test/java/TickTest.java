/** Promises 12 to 14, 16 and 17: heads, skin, ticks with all their acts, cuts, counts. */
public final class TickTest {
    public static void main(String[] args) {
        head();
        skin();
        ticks();
        wordsTakeATick();
        whatIsAheadOfTheTick();
        memory();
        moves();
        grabs();
        passes();
        drops();
        order();
        cut();
        cutArmInTicks();
        cutAndThings();
        count();
        fullSea();
        Check.end();
    }

    private static ThinkingArms with(int x, int y, int pieces, String rules) {
        ThinkingArms a = new ThinkingArms();
        a.arm(x, y, pieces, 0);
        Check.rules(a, 0, rules);
        return a;
    }

    private static void head() {
        ThinkingArms x = with(0, 0, 2, "*:f");
        Check.due("no arm", x.head(1, 0), ThinkingArms.BAD);
        Check.due("no arm", x.head(-1, 0), ThinkingArms.BAD);
        Check.due("no word", x.head(0, -1), ThinkingArms.BAD);
        Check.due("no word", x.head(0, 4), ThinkingArms.BAD);
        Check.due("at first", x.head(0, 3), 0);
        Check.due("what it was", x.head(0, 2), 3);
        x.arm(0, 5, 2, 0);
        Check.due("another arm's", x.head(1, 1), 0);
        Check.due("its own still", x.head(0, 0), 2);
    }

    private static void skin() {
        ThinkingArms x = with(2, 2, 2, "*:g");
        Check.due("no taste", x.skin(-1), ThinkingArms.BAD);
        Check.due("no taste", x.skin(4), ThinkingArms.BAD);
        x.thing(3, 2, 3);
        x.ticks(1);
        Check.due("skin at first is 3", x.piece(0, 1, 2), ThinkingArms.NONE);
        Check.due("what it was", x.skin(1), 3);
        x.ticks(1);
        Check.due("grabbed then", x.piece(0, 1, 2), 0);
        Check.due("what it was", x.skin(1), 1);
        ThinkingArms y = with(2, 2, 2, "t3:s1");
        y.thing(3, 2, 3);
        Check.due("skin is felt all the same", y.finds(0, 1), 0);
    }

    private static void ticks() {
        ThinkingArms x = new ThinkingArms();
        Check.due("none", x.ticks(0), ThinkingArms.BAD);
        Check.due("61", x.ticks(61), ThinkingArms.BAD);
        Check.due("wild", x.ticks(Integer.MIN_VALUE), ThinkingArms.BAD);
        Check.due("an empty sea", x.ticks(60), 0);
        Check.due("done", x.count(6), 60);
        x.arm(0, 0, 2, 0);
        x.thing(1, 1, 0);
        x.thing(1, 0, 1);
        Check.due("no rules", x.ticks(1), 0);
        Check.rules(x, 0, "*:gp");
        Check.due("one is eaten", x.ticks(1), 1);
        Check.due("at its cell first", x.told(1, 0), 2);
        Check.due("two are eaten, all in all", x.ticks(1), 2);
        Check.due("still two", x.ticks(1), 2);
        Check.due("done", x.count(6), 64);
    }

    private static void wordsTakeATick() {
        ThinkingArms x = with(0, 0, 4, "w1:o1;w2:o2");
        x.head(0, 1);
        int[][] said = {{1, 0, 0, 0}, {1, 1, 0, 0}, {2, 1, 1, 0}, {2, 2, 1, 1}, {2, 2, 2, 1}};
        for (int t = 0; t < said.length; t++) {
            if (t == 2) {
                x.head(0, 2);
            }
            x.ticks(1);
            for (int k = 0; k < 4; k++) {
                Check.due("tick " + t + " piece " + k, x.piece(0, k, 3), said[t][k]);
            }
        }
        ThinkingArms y = with(0, 0, 2, "*:o1o2fo3;x:o1");
        y.ticks(1);
        Check.due("the last o", y.piece(0, 1, 3), 3);
        Check.rules(y, 0, "*:f");
        y.ticks(1);
        Check.due("without: 0", y.piece(0, 1, 3), 0);
        ThinkingArms z = new ThinkingArms();
        z.arm(0, 0, 2, 0);
        z.head(0, 3);
        z.ticks(1);
        Check.due("piece 0 says it without rules, too", z.piece(0, 0, 3), 3);
        Check.due("the others nothing", z.piece(0, 1, 3), 0);
    }

    /** A thing that one piece grabs is still felt by the next, in the same tick. */
    private static void whatIsAheadOfTheTick() {
        ThinkingArms x = with(2, 2, 3, "t0:gs1;*:s2");
        x.thing(3, 3, 0);
        x.thing(4, 3, 0);
        x.ticks(1);
        Check.due("piece 1 grabbed below", x.piece(0, 1, 2), 0);
        Check.due("piece 2 as well", x.piece(0, 2, 2), 1);
        ThinkingArms y = with(2, 2, 3, "t0:gs1;*:s2");
        y.thing(4, 2, 0);
        y.ticks(1);
        Check.due("piece 1 is first", y.piece(0, 1, 2), 0);
        Check.due("piece 2 felt it, too", y.piece(0, 2, 1), 1);
        Check.due("but it was gone", y.piece(0, 2, 2), ThinkingArms.NONE);
        y.ticks(1);
        Check.due("now it feels none", y.piece(0, 2, 1), 2);
    }

    private static void memory() {
        ThinkingArms x = with(0, 0, 3, "m0:s1;m1&x:s3s2;m1:s3;*:f");
        x.ticks(1);
        Check.due("1", x.piece(0, 1, 1), 1);
        Check.due("1", x.piece(0, 2, 1), 1);
        x.ticks(1);
        Check.due("3", x.piece(0, 1, 1), 3);
        Check.due("the last s", x.piece(0, 2, 1), 2);
        x.ticks(2);
        Check.due("it stays", x.piece(0, 1, 1), 3);
        Check.due("piece 0 has none", x.piece(0, 0, 1), 0);
    }

    private static void moves() {
        ThinkingArms x = with(3, 3, 3, "x:f;*:f");
        x.ticks(1);
        Check.due("piece 1 could not", x.piece(0, 1, 0), 28);
        Check.due("the tip turns", x.piece(0, 2, 0), 36);
        x.ticks(1);
        Check.due("piece 1 flips", x.piece(0, 1, 0), 35);
        Check.due("the tip turns about it, from east to south", x.piece(0, 2, 0), 43);
        ThinkingArms y = with(3, 3, 2, "*:ff");
        y.ticks(1);
        Check.due("twice in a tick", y.piece(0, 1, 0), 26);
    }

    private static void grabs() {
        int[][] places = {{3, 3}, {4, 3}, {3, 4}, {2, 3}, {3, 2}};
        for (int from = 0; from < 5; from++) {
            ThinkingArms x = with(3, 2, 2, "*:g");
            x.flip(0, 1);
            Check.due("the piece is at 3, 3", x.piece(0, 1, 0), 27);
            for (int k = 4; k >= from; k--) {
                x.thing(places[k][0], places[k][1], 0);
            }
            x.ticks(1);
            Check.due("place " + from + " is first", x.piece(0, 1, 2), 4 - from);
            Check.due("lying no more", x.told(4 - from, 0), 1);
            x.ticks(1);
            Check.due("one at most", x.count(3), 1);
        }
        ThinkingArms y = with(3, 2, 2, "*:g");
        y.flip(0, 1);
        y.thing(3, 3, 3);
        y.thing(4, 3, 3);
        y.thing(3, 4, 1);
        y.thing(4, 4, 1);
        y.ticks(1);
        Check.due("past the skin", y.piece(0, 1, 2), 2);
        ThinkingArms z = with(3, 2, 2, "*:g");
        z.flip(0, 1);
        z.thing(4, 4, 0);
        z.ticks(1);
        Check.due("not by a corner", z.piece(0, 1, 2), ThinkingArms.NONE);
        ThinkingArms edge = with(6, 3, 2, "t0:s1;*:g");
        edge.thing(0, 4, 0);
        edge.thing(0, 3, 1);
        edge.ticks(1);
        Check.due("the sea does not go round", edge.piece(0, 1, 2), ThinkingArms.NONE);
        Check.due("nor is it felt there", edge.piece(0, 1, 1), 0);
        ThinkingArms west = with(1, 3, 2, "t0:s1;*:g");
        west.flip(0, 1);
        west.flip(0, 1);
        west.thing(7, 2, 0);
        west.thing(7, 3, 0);
        west.ticks(1);
        Check.due("at the west end", west.piece(0, 1, 0), 24);
        Check.due("nor westwards", west.piece(0, 1, 2), ThinkingArms.NONE);
        Check.due("nor felt", west.piece(0, 1, 1), 0);
    }

    private static void passes() {
        ThinkingArms x = with(0, 0, 4, "x:gp;m1:p;*:s0");
        x.thing(3, 0, 0);
        x.thing(3, 1, 1);
        x.ticks(1);
        Check.due("to the next", x.piece(0, 2, 2), 0);
        Check.due("the tip holds none then", x.piece(0, 3, 2), ThinkingArms.NONE);
        x.ticks(1);
        Check.due("that one holds one", x.piece(0, 3, 2), 1);
        Check.due("still", x.piece(0, 2, 2), 0);
        Check.rules(x, 0, "*:p");
        Check.due("on: none eaten", x.ticks(1), 0);
        Check.due("piece 1 has the first", x.piece(0, 1, 2), 0);
        Check.due("piece 2 has the second, as it was let go ahead of that", x.piece(0, 2, 2), 1);
        Check.due("one is eaten", x.ticks(1), 1);
        Check.due("the other", x.ticks(1), 2);
        Check.due("who ate it", x.told(0, 3), 0);
        Check.due("the mouth holds none", x.piece(0, 0, 2), ThinkingArms.NONE);
    }

    private static void drops() {
        ThinkingArms x = with(0, 0, 2, "h:d;*:g");
        x.thing(2, 0, 0);
        x.ticks(1);
        Check.due("held", x.told(0, 0), 1);
        x.ticks(1);
        Check.due("lying", x.told(0, 0), 0);
        Check.due("at the piece's cell", x.told(0, 1), 1);
        Check.due("nobody's", x.told(0, 3), ThinkingArms.NONE);
        Check.due("the piece holds none", x.piece(0, 1, 2), ThinkingArms.NONE);
        Check.due("a wall can't be there", x.wall(1, 0, true), ThinkingArms.NOT);
        Check.due("where it lay it can", x.wall(2, 0, true), 0);
        x.ticks(1);
        x.thing(1, 0, 1);
        x.ticks(1);
        Check.due("one is lying there", x.piece(0, 1, 2), 0);
        Check.due("none to drop", Check.rules(x, 0, "*:pddd"), 1);
        Check.due("eaten first", x.ticks(1), 1);
        ThinkingArms y = with(0, 0, 2, "*:gfd");
        y.thing(2, 0, 2);
        y.ticks(1);
        Check.due("carried", y.told(0, 1), 8);
        Check.due("and dropped", y.told(0, 0), 0);
    }

    /** Arm 0 is ahead of arm 1, a piece ahead of the next. */
    private static void order() {
        ThinkingArms x = new ThinkingArms();
        x.arm(0, 0, 3, 0);
        x.arm(0, 2, 3, 0);
        x.thing(2, 1, 0);
        Check.rules(x, 1, "*:g");
        Check.rules(x, 0, "*:g");
        x.ticks(1);
        Check.due("two arms after one thing", x.told(0, 3), 2);
        ThinkingArms y = new ThinkingArms();
        y.arm(1, 1, 2, 0);
        y.arm(2, 3, 2, 3);
        Check.rules(y, 0, "*:f");
        Check.rules(y, 1, "*:f");
        y.ticks(1);
        Check.due("arm 0 can't go where arm 1 is yet, but on", y.piece(0, 1, 0), 17);
        Check.due("arm 1 goes", y.piece(1, 1, 0), 27);
    }

    private static void cut() {
        ThinkingArms x = with(0, 0, 5, "*:f");
        Check.due("no arm", x.cut(1, 1), ThinkingArms.BAD);
        Check.due("no arm", x.cut(-1, 1), ThinkingArms.BAD);
        Check.due("piece 0", x.cut(0, 0), ThinkingArms.BAD);
        Check.due("no piece", x.cut(0, 5), ThinkingArms.BAD);
        Check.due("no piece", x.cut(0, -1), ThinkingArms.BAD);
        Check.due("cut", x.cut(0, 3), 2);
        Check.due("once", x.cut(0, 1), ThinkingArms.NOT);
        Check.due("bad still", x.cut(0, 0), ThinkingArms.BAD);
        x.arm(0, 7, 2, 0);
        Check.due("another, at its tip", x.cut(1, 1), 1);
        int[] cut = {0, 0, 0, 1, 1};
        int[] tip = {0, 0, 1, 0, 1};
        for (int k = 0; k < 5; k++) {
            Check.due("cut " + k, x.piece(0, k, 4), cut[k]);
            Check.due("tip " + k, x.piece(0, k, 5), tip[k]);
        }
        Check.due("piece 0 is a tip", x.piece(1, 0, 5), 1);
    }

    private static void cutArmInTicks() {
        ThinkingArms x = with(1, 3, 5, "w1:o1s1;w0:o1s2;*:o3");
        x.ticks(1);
        x.cut(0, 2);
        Check.due("the first cut one finds its clause", x.finds(0, 2), 0);
        x.ticks(1);
        Check.due("the first cut one says nothing", x.piece(0, 2, 3), 0);
        Check.due("nor remembers", x.piece(0, 2, 1), 2);
        Check.due("the one behind it heard it in the tick ahead", x.piece(0, 3, 1), 1);
        x.ticks(1);
        Check.due("now it hears nothing", x.piece(0, 3, 1), 2);
        Check.due("and says", x.piece(0, 3, 3), 1);
        Check.due("piece 1 hears the head", x.piece(0, 1, 3), 1);
        ThinkingArms y = with(1, 3, 5, "*:f");
        y.cut(0, 2);
        y.ticks(1);
        int[] cells = {25, 33, 27, 28, 36};
        for (int k = 0; k < 5; k++) {
            Check.due("cell " + k, y.piece(0, k, 0), cells[k]);
        }
        y.ticks(1);
        int[] then = {25, 24, 27, 35, 43};
        for (int k = 0; k < 5; k++) {
            Check.due("then " + k, y.piece(0, k, 0), then[k]);
        }
        ThinkingArms z = with(1, 3, 3, "x:s1;*:s2");
        z.cut(0, 2);
        z.ticks(1);
        Check.due("the one ahead is a tip by its rule", z.piece(0, 1, 1), 1);
        Check.due("the cut one does nothing", z.piece(0, 2, 1), 0);
    }

    private static void cutAndThings() {
        ThinkingArms x = with(1, 3, 4, "h&!w3:p;*:g");
        x.thing(3, 4, 0);
        x.thing(5, 3, 1);
        x.ticks(1);
        Check.due("piece 2 holds", x.piece(0, 2, 2), 0);
        Check.due("the tip holds", x.piece(0, 3, 2), 1);
        x.cut(0, 2);
        x.ticks(5);
        Check.due("the first cut one holds on", x.piece(0, 2, 2), 0);
        Check.due("nothing is passed to it", x.piece(0, 3, 2), 1);
        ThinkingArms y = with(1, 3, 4, "h:p;*:g");
        y.thing(5, 3, 1);
        y.ticks(1);
        y.cut(0, 2);
        y.ticks(3);
        Check.due("nor if it holds none", y.piece(0, 3, 2), 0);
        Check.due("held for ever", y.told(0, 3), 3);
        Check.rules(y, 0, "h:d");
        y.ticks(1);
        Check.due("let go by an arm that is cut", y.told(0, 1), 28);
        Check.due("it is lying", y.told(0, 0), 0);
        ThinkingArms z = with(1, 3, 4, "h:p;*:g");
        z.thing(3, 4, 0);
        z.ticks(1);
        z.cut(0, 3);
        Check.due("the part at the mouth eats still", z.ticks(2), 1);
    }

    /** As many arms, pieces, things as there can be: all calls that go through them. */
    private static void fullSea() {
        ThinkingArms x = new ThinkingArms();
        for (int a = 0; a < 3; a++) {
            x.arm(0, 3 * a, 7, 0);
            Check.rules(x, a, "h:p;x&!h:g;w1:o1");
        }
        for (int t = 0; t < 7; t++) {
            x.thing(t, 4, 3);
        }
        x.thing(7, 6, 0);
        x.image(0);
        Check.due("grabbed in the first tick, passed in six", x.ticks(6), 0);
        Check.due("eaten in the seventh", x.ticks(1), 1);
        Check.due("by the last arm", x.told(7, 3), 20);
        x.restore(0);
        Check.due("lying", x.told(7, 1), 55);
        Check.due("by any word", x.fewest(0, 7, 7, 0), 1);
        Check.due("by any word", x.fewest(2, 7, 7, 1), 0);
        Check.due("not in six", x.fewest(2, 7, 6, 0), ThinkingArms.NONE);
        Check.due("a thing of the skin's taste", x.fewest(1, 0, 20, 0), ThinkingArms.NONE);
        Check.due("60", x.ticks(60), 1);
        Check.due("the skin's lie still", x.count(2), 7);
        Check.due("none is held", x.count(3), 0);
    }

    private static void count() {
        ThinkingArms x = with(0, 0, 2, "*:g");
        Check.due("bad", x.count(-1), ThinkingArms.BAD);
        Check.due("bad", x.count(7), ThinkingArms.BAD);
        Check.due("bad", x.count(Integer.MAX_VALUE), ThinkingArms.BAD);
        x.thing(1, 0, 0);
        x.thing(2, 0, 0);
        x.thing(7, 7, 0);
        x.wall(5, 5, true);
        x.wall(5, 6, true);
        x.ticks(3);
        int[] then = {1, 3, 2, 1, 0, 2, 3};
        for (int what = 0; what <= 6; what++) {
            Check.due("count " + what, x.count(what), then[what]);
        }
        Check.rules(x, 0, "*:p");
        x.ticks(1);
        int[] last = {1, 3, 2, 0, 1, 2, 4};
        for (int what = 0; what <= 6; what++) {
            Check.due("then " + what, x.count(what), last[what]);
        }
    }
}

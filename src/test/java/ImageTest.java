/** Promises 22 and 23: images are kept, and all is as it was. */
public final class ImageTest {
    public static void main(String[] args) {
        refused();
        allComesBack();
        thingsComeBack();
        heldThingsComeBack();
        whatIsNotKept();
        twoImages();
        slotsAreUsedAgain();
        Check.end();
    }

    private static void refused() {
        ThinkingArms x = new ThinkingArms();
        int[] bad = {-1, 2, Integer.MIN_VALUE, Integer.MAX_VALUE};
        for (int n : bad) {
            Check.due("image bad", x.image(n), ThinkingArms.BAD);
            Check.due("restore bad", x.restore(n), ThinkingArms.BAD);
        }
        Check.due("none was", x.restore(0), ThinkingArms.NONE);
        Check.due("image", x.image(0), 1);
        Check.due("restore", x.restore(0), 1);
        Check.due("none was", x.restore(1), ThinkingArms.NONE);
    }

    private static ThinkingArms scene() {
        ThinkingArms x = new ThinkingArms();
        x.arm(2, 2, 4, 0);
        x.thing(5, 3, 1);
        x.thing(5, 1, 2);
        x.wall(0, 7, true);
        Check.rules(x, 0, "x:gs2po1;h:ps1;*:s3");
        x.head(0, 2);
        x.skin(0);
        x.ticks(2);
        return x;
    }

    /** All that is told of the scene, as one number, in 83 calls: an object is good for 512. */
    private static long all(ThinkingArms x) {
        long sum = 0;
        for (int what = 0; what <= 6; what++) {
            sum = 31 * sum + x.count(what);
        }
        for (int a = 0; a < 2; a++) {
            sum = 31 * sum + x.form(a);
            sum = 31 * sum + x.forms(a);
            for (int k = 0; k < 4; k++) {
                for (int what = 0; what <= 5; what++) {
                    sum = 31 * sum + x.piece(a, k, what);
                }
                sum = 31 * sum + x.finds(a, k);
            }
        }
        for (int t = 0; t < 4; t++) {
            for (int what = 0; what <= 3; what++) {
                sum = 31 * sum + x.told(t, what);
            }
        }
        return sum;
    }

    private static void allComesBack() {
        ThinkingArms x = scene();
        long was = all(x);
        x.image(0);
        Check.due("an image changes nothing", all(x), was);
        x.wall(0, 7, false);
        x.wall(7, 7, true);
        x.arm(0, 0, 3, 0);
        x.thing(0, 5, 0);
        x.flip(0, 3);
        Check.rules(x, 0, "*:fo2s0");
        Check.rules(x, 1, "*:f");
        Check.due("head", x.head(0, 1), 2);
        Check.due("skin", x.skin(1), 0);
        x.ticks(7);
        x.cut(0, 2);
        Check.holds("all is another", all(x) != was);
        Check.due("restore", x.restore(0), 1);
        Check.due("all is as it was", all(x), was);
        Check.due("its wall", x.wall(0, 7, true), 1);
        Check.due("no later wall", x.wall(7, 7, false), 0);
        Check.due("head's word", x.head(0, 2), 2);
        Check.due("skin", x.skin(0), 0);
        Check.due("not cut", x.cut(0, 3), 1);
        Check.due("again", x.restore(0), 1);
        ThinkingArms y = scene();
        Check.due("it goes on alike", x.ticks(5), y.ticks(5));
        Check.due("it goes on alike", all(x), all(y));
    }

    /** What lay, was held, was eaten when the image was kept does so again, and is felt and grabbed as then. */
    private static void thingsComeBack() {
        ThinkingArms x = new ThinkingArms();
        x.arm(0, 0, 2, 0);
        x.arm(0, 4, 3, 0);
        x.thing(2, 0, 1);
        x.thing(3, 4, 2);
        x.image(1);
        Check.rules(x, 0, "*:gp");
        Check.rules(x, 1, "x:g");
        x.ticks(1);
        x.image(0);
        x.restore(1);
        Check.due("lying", x.told(0, 1), 2);
        Check.due("no wall can be there", x.wall(2, 0, true), ThinkingArms.NOT);
        Check.due("nor a thing", x.thing(3, 4, 0), ThinkingArms.NOT);
        Check.rules(x, 0, "t1:f");
        Check.due("felt", x.finds(0, 1), 0);
        x.restore(0);
        Check.due("eaten", x.told(0, 0), 2);
        Check.due("by", x.told(0, 3), 0);
        Check.due("held", x.told(1, 0), 1);
        Check.due("by", x.told(1, 3), 12);
        Check.due("taste", x.told(1, 2), 2);
        Check.due("its place is free", x.thing(3, 4, 3), 2);
        x.image(1);
        x.ticks(1);
        x.restore(0);
        x.thing(6, 6, 0);
        x.restore(1);
        Check.due("the third thing's taste", x.told(2, 2), 3);
        Check.due("the third thing's cell", x.told(2, 1), 35);
    }

    /** Things passed on and tastes overwritten behind an image must not show through. */
    private static void heldThingsComeBack() {
        ThinkingArms x = new ThinkingArms();
        x.arm(0, 0, 2, 0);
        x.arm(0, 4, 3, 0);
        x.image(1);
        x.thing(3, 4, 2);
        Check.rules(x, 1, "x&!h:g;h:p");
        x.ticks(1);
        x.image(0);
        x.ticks(1);
        Check.due("passed on", x.told(0, 3), 11);
        x.restore(0);
        Check.due("held by the tip", x.told(0, 3), 12);
        x.restore(1);
        x.thing(1, 0, 0);
        Check.rules(x, 0, "*:g");
        x.ticks(1);
        Check.due("held by the first arm", x.told(0, 3), 1);
        x.restore(0);
        Check.due("held by the second", x.told(0, 3), 12);
        Check.due("of its taste", x.told(0, 2), 2);
        x.restore(1);
        x.wall(3, 4, true);
        x.restore(0);
        Check.due("no wall", x.count(5), 0);
    }

    private static void whatIsNotKept() {
        ThinkingArms x = new ThinkingArms();
        x.arm(0, 0, 2, 0);
        x.sheet(0, 2, 5);
        Check.type(x, "*:");
        x.image(0);
        x.sheet(0, 1, 6);
        x.sheet(1, 1, 7);
        Check.type(x, "fg");
        x.image(1);
        x.restore(0);
        Check.due("sheets stay", x.drop(0), 6);
        Check.due("sheets stay", x.drop(1), 7);
        Check.due("the tape stays", x.rules(0), 1);
        Check.due("images stay", x.restore(1), 1);
    }

    private static void twoImages() {
        ThinkingArms x = new ThinkingArms();
        x.image(0);
        x.arm(0, 0, 2, 0);
        x.image(1);
        x.arm(0, 2, 2, 0);
        x.restore(0);
        Check.due("none", x.count(0), 0);
        x.restore(1);
        Check.due("one", x.count(0), 1);
        x.image(0);
        x.arm(0, 4, 2, 0);
        x.restore(0);
        Check.due("kept anew", x.count(0), 1);
        x.ticks(3);
        x.restore(1);
        Check.due("ticks", x.count(6), 0);
    }

    /** An arm and a thing made behind a restore are new, whatever was of that number ahead of it. */
    private static void slotsAreUsedAgain() {
        ThinkingArms x = new ThinkingArms();
        x.image(0);
        x.arm(0, 0, 3, 0);
        x.thing(1, 0, 0);
        Check.rules(x, 0, "*:gs2o3");
        x.head(0, 3);
        x.ticks(2);
        x.cut(0, 2);
        x.restore(0);
        Check.due("the cells are free", x.arm(0, 0, 3, 0), 0);
        Check.due("no rules", x.finds(0, 1), ThinkingArms.NONE);
        Check.due("no memory", x.piece(0, 1, 1), 0);
        Check.due("holds none", x.piece(0, 1, 2), ThinkingArms.NONE);
        Check.due("said nothing", x.piece(0, 1, 3), 0);
        Check.due("not cut", x.piece(0, 2, 4), 0);
        Check.due("no word", x.head(0, 0), 0);
        Check.due("thing", x.thing(4, 4, 2), 0);
        Check.due("lying", x.told(0, 0), 0);
        Check.due("where", x.told(0, 1), 36);
        Check.due("nobody's", x.told(0, 3), ThinkingArms.NONE);
    }
}

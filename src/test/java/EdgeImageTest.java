import java.util.function.Consumer;

/** The sentences on IMAGES that name an edge, each with a test of its own; promises 22 and 23; the 512th call. */
public final class EdgeImageTest {
    private static final int BAD = -1, NOT = -2, FULL = -3, NONE = -4, NULL = -11;

    public static void main(String[] args) {
        imagesAre0And1();
        noneWas();
        anEmptySeaIsKept();
        aFullSeaIsKept();
        allButSheetsTapeImages();
        eachThingThatIsKept();
        keptAnew();
        restoredAgainAndAgain();
        anImageStaysAsItIs();
        armsAndThingsComeAnew();
        heldThingsComeBack();
        the512thCall();
        the512thOfTheDearest();
        Check.end();
    }

    /** "an IMAGE (0, 1): 1. BAD." */
    private static void imagesAre0And1() {
        ThinkingArms x = new ThinkingArms();
        for (int n = -1; n <= 2; n++) {
            boolean can = n == 0 || n == 1;
            Check.due("image " + n, x.image(n), can ? 1 : BAD);
            Check.due("restore " + n, x.restore(n), can ? 1 : BAD);
        }
    }

    /** "NONE: none was" */
    private static void noneWas() {
        for (int kept = 0; kept <= 1; kept++) {
            ThinkingArms x = new ThinkingArms();
            Check.due("none", x.restore(kept), NONE);
            x.image(kept);
            x.arm(0, 0, 2, 0);
            Check.due("the other was not", x.restore(1 - kept), NONE);
            Check.due("nothing is changed", x.count(0), 1);
            Check.due("this one was", x.restore(kept), 1);
            Check.due("it is as it was", x.count(0), 0);
            Check.due("the other still was not", x.restore(1 - kept), NONE);
        }
    }

    private static void anEmptySeaIsKept() {
        ThinkingArms x = new ThinkingArms();
        x.image(0);
        x.wall(3, 3, true);
        x.arm(0, 0, 7, 0);
        x.thing(5, 5, 2);
        x.skin(0);
        x.ticks(5);
        x.restore(0);
        for (int what = 0; what <= 6; what++) {
            Check.due("count " + what, x.count(what), 0);
        }
        Check.due("no arm", x.form(0), BAD);
        Check.due("no thing", x.told(0, 0), BAD);
        Check.due("no wall", x.wall(3, 3, false), 0);
        Check.due("skin", x.skin(0), 3);
        Check.due("the cells are free", x.arm(0, 0, 7, 0), 0);
        Check.due("the cells are free", x.thing(5, 5, 0), 0);
    }

    private static void aFullSeaIsKept() {
        ThinkingArms x = new ThinkingArms();
        x.image(1);
        for (int a = 0; a < 3; a++) {
            x.arm(0, a, 7, 0);
        }
        for (int t = 0; t < 8; t++) {
            x.thing(t, 7, t % 4);
        }
        for (int c = 24; c < 56; c++) {
            x.wall(c % 8, c / 8, true);
        }
        x.image(0);
        x.restore(1);
        Check.due("empty", x.count(5), 0);
        x.restore(0);
        Check.due("full of arms", x.arm(7, 0, 2, 1), FULL);
        Check.due("full of things", x.thing(7, 0, 0), FULL);
        Check.due("walls", x.count(5), 32);
        for (int a = 0; a < 3; a++) {
            for (int k = 0; k < 7; k++) {
                Check.due("piece " + k + " of " + a, x.piece(a, k, 0), 8 * a + k);
            }
        }
        for (int t = 0; t < 8; t++) {
            Check.due("thing " + t, x.told(t, 1), 56 + t);
            Check.due("taste " + t, x.told(t, 2), t % 4);
        }
        Check.due("a wall", x.thing(0, 3, 0), NOT);
        Check.due("a lying thing", x.wall(7, 7, true), NOT);
    }

    /** "All but SHEETS, THE TAPE, IMAGES is kept" */
    private static void allButSheetsTapeImages() {
        ThinkingArms x = new ThinkingArms();
        x.arm(0, 0, 2, 0);
        x.sheet(0, 1, 5);
        x.film(0, 0, 1, 0);
        x.type('*', 1);
        x.image(0);
        x.type(':', 1);
        x.film(0, 0, 1, 2);
        x.sheet(1, 2, 7);
        x.image(1);
        x.restore(0);
        Check.due("the tape is as it is", x.type('f', 1), 3);
        Check.due("the sheet is as it is", x.differs(0, 0, 1, 2), NONE);
        Check.due("the other sheet, too", x.drop(1), 7);
        Check.due("the other image, too", x.restore(1), 1);
        Check.due("the tape is as it is", x.rules(0), 1);
        x.restore(0);
        Check.due("the tape is empty still", x.type('f', 1), 1);
        Check.due("rules are as they were", x.finds(0, 1), NONE);
        Check.due("a dropped sheet stays so", x.drop(1), NULL);
    }

    private static void life(ThinkingArms x) {
        x.arm(1, 1, 4, 0);
        x.arm(1, 4, 5, 0);
        x.thing(4, 2, 0);
        x.thing(6, 4, 1);
        x.thing(3, 7, 2);
        Check.rules(x, 0, "x:gs1o2;*:s3");
        Check.rules(x, 1, "x:gp;h:p;*:o1");
        x.wall(0, 7, true);
        x.head(0, 2);
        x.head(1, 1);
        x.ticks(2);
        x.sheet(0, 0, 64);
        x.sheet(1, 1, 9);
        x.sheet(2, 2, 12);
    }

    /** "All is as it was when an IMAGE was kept", whichever one thing was changed since */
    private static void eachThingThatIsKept() {
        back("a wall", x -> x.wall(3, 3, true));
        back("a wall less", x -> x.wall(0, 7, false));
        back("all walls", x -> x.walls(0));
        back("an arm", x -> x.arm(3, 6, 3, 0));
        back("a thing", x -> x.thing(7, 7, 3));
        back("a flip", x -> x.flip(0, 3));
        back("rules", x -> Check.rules(x, 0, "*:fo1s2"));
        back("a word", x -> x.head(0, 0));
        back("skin", x -> x.skin(0));
        back("a tick", x -> x.ticks(1));
        back("sixty ticks", x -> x.ticks(60));
        back("a cut", x -> x.cut(0, 2));
        back("an eaten thing", x -> {
            Check.rules(x, 0, "*:p");
            x.ticks(5);
        });
        back("a dropped thing", x -> {
            Check.rules(x, 0, "*:d");
            x.ticks(1);
        });
        back("both images' stead", x -> {
            x.ticks(2);
            x.image(1);
            x.arm(3, 6, 3, 0);
            x.restore(1);
        });
    }

    private static void back(String name, Consumer<ThinkingArms> change) {
        Twins.unchanged(name, x -> {
            life(x);
            x.image(0);
            x.image(1);
        }, x -> {
            change.accept(x);
            int answer = x.restore(0);
            x.image(1);
            return answer;
        }, 1);
    }

    private static void keptAnew() {
        ThinkingArms x = new ThinkingArms();
        for (int k = 0; k < 60; k++) {
            x.image(0);
            x.ticks(1);
        }
        x.restore(0);
        Check.due("the latest", x.count(6), 59);
        Check.due("none in the other", x.restore(1), NONE);
    }

    private static void restoredAgainAndAgain() {
        ThinkingArms x = new ThinkingArms();
        x.arm(3, 3, 2, 0);
        Check.rules(x, 0, "*:f");
        x.image(0);
        for (int k = 1; k <= 60; k++) {
            x.ticks(k);
            Check.due("restore", x.restore(0), 1);
            Check.due("its cell", x.piece(0, 1, 0), 28);
            Check.due("ticks", x.count(6), 0);
        }
    }

    /** What is done behind a restore does not go into the image. */
    private static void anImageStaysAsItIs() {
        ThinkingArms x = new ThinkingArms();
        x.arm(3, 3, 2, 0);
        x.thing(5, 3, 1);
        Check.rules(x, 0, "*:gp");
        x.image(0);
        x.restore(0);
        x.ticks(1);
        x.cut(0, 1);
        x.skin(0);
        x.head(0, 3);
        x.restore(0);
        Check.due("lying", x.told(0, 1), 29);
        Check.due("its taste", x.told(0, 2), 1);
        Check.due("not cut", x.form(0), 0);
        Check.due("skin", x.skin(3), 3);
        Check.due("head", x.head(0, 0), 0);
        Check.due("rules", x.ticks(1), 1);
    }

    private static void armsAndThingsComeAnew() {
        ThinkingArms x = new ThinkingArms();
        x.arm(0, 0, 2, 0);
        x.image(0);
        for (int k = 0; k < 30; k++) {
            Check.due("arm 1", x.arm(0, 2, 7, 0), 1);
            Check.due("arm 2", x.arm(0, 4, 7, 0), 2);
            Check.due("full", x.arm(0, 6, 7, 0), FULL);
            Check.due("thing 0", x.thing(7, 2, k % 4), 0);
            Check.due("its taste", x.told(0, 2), k % 4);
            x.restore(0);
        }
        Check.due("one", x.count(0), 1);
        x.arm(0, 2, 3, 0);
        x.thing(3, 2, 0);
        x.head(1, 3);
        Check.rules(x, 1, "*:gs2o1");
        x.ticks(2);
        x.cut(1, 2);
        x.restore(0);
        Check.due("a new arm 1", x.arm(0, 2, 3, 0), 1);
        int[] atFirst = {18, 0, NONE, 0, 0, 1};
        for (int what = 0; what <= 5; what++) {
            Check.due("its tip, " + what, x.piece(1, 2, what), atFirst[what]);
        }
        Check.due("its head said nothing", x.piece(1, 0, 3), 0);
        Check.due("its head's word", x.head(1, 0), 0);
        Check.due("no rules", x.finds(1, 1), NONE);
        Check.due("not cut", x.form(1), 0);
        Check.due("a new thing 0", x.thing(7, 7, 1), 0);
        Check.due("lying", x.told(0, 0), 0);
        Check.due("there", x.told(0, 1), 63);
    }

    /** A held thing's taste, arm and piece come back, whatever had its number since. */
    private static void heldThingsComeBack() {
        ThinkingArms x = new ThinkingArms();
        x.arm(0, 0, 2, 0);
        x.arm(0, 4, 3, 0);
        x.image(1);
        x.thing(3, 4, 2);
        Check.rules(x, 1, "x:g");
        x.ticks(1);
        x.image(0);
        x.restore(1);
        x.thing(1, 0, 0);
        Check.rules(x, 0, "*:g");
        x.ticks(1);
        Check.due("held by the first arm", x.told(0, 3), 1);
        Check.due("of its taste", x.told(0, 2), 0);
        x.restore(0);
        Check.due("held by the second", x.told(0, 3), 12);
        Check.due("at its cell", x.told(0, 1), 34);
        Check.due("of its taste", x.told(0, 2), 2);
    }

    /** "An object is used for at most 512 calls": the last of them answers as the first. */
    private static void the512thCall() {
        ThinkingArms x = new ThinkingArms();
        x.arm(3, 3, 2, 0);
        x.type(0x2A3A66L, 3);
        x.rules(0);
        for (int c = 4; c <= 511; c++) {
            Check.due("call " + c, x.ticks(60), 0);
        }
        Check.due("call 512", x.count(6), 508 * 60);
    }

    /** Of the calls that make objects the most: texts of 100 bytes, read again and again; images; searches. */
    private static void the512thOfTheDearest() {
        ThinkingArms x = new ThinkingArms();
        x.arm(0, 3, 7, 0);
        x.thing(7, 7, 0);
        int calls = 2;
        while (calls + 17 <= 495) {
            Check.due("a long text", Check.type(x, "!h&!h&!h&!h&!h&!h&!h&!h&!h&!h&!h&!h&!h&!h&!h&!h&!h&!h&!h&!h&!h&!h&!h&!h&!h&!h&!h&!h&!h&!h&!h&!h&!h:f"), 100);
            Check.due("read", x.rules(0), 1);
            Check.due("an image", x.image(calls & 1), 1);
            Check.holds("forms", x.forms(0) > 1);
            x.flip(0, 6);
            calls += 17;
        }
        while (calls < 511) {
            Check.due("none", x.fewest(0, 0, 20, 0), NONE);
            calls++;
        }
        Check.due("call 512", x.count(0), 1);
    }
}

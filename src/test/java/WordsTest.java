/** Promise 21: the fewest words by which a thing is eaten. */
public final class WordsTest {
    private static final int MIN = Integer.MIN_VALUE, MAX = Integer.MAX_VALUE;

    public static void main(String[] args) {
        refused();
        oneWord();
        twoWords();
        threeAndFourWords();
        fiveWords();
        leastRow();
        lastWordGoesOn();
        othersHeads();
        fromNowOn();
        cutArm();
        allIsAsItWas();
        Check.end();
    }

    /** An arm of two pieces at 3, 3 and a thing at its tip. */
    private static ThinkingArms with(String rules) {
        ThinkingArms x = new ThinkingArms();
        x.arm(3, 3, 2, 0);
        x.thing(4, 3, 0);
        Check.rules(x, 0, rules);
        return x;
    }

    private static void row(ThinkingArms x, int n, int... want) {
        Check.due("how many within " + n, x.fewest(0, 0, n, 0), want.length);
        for (int i = 1; i <= 4; i++) {
            Check.due("word " + i + " within " + n, x.fewest(0, 0, n, i), i <= want.length ? want[i - 1] : ThinkingArms.BAD);
        }
    }

    private static void none(ThinkingArms x, int n) {
        for (int i = 0; i <= 4; i++) {
            Check.due("none within " + n, x.fewest(0, 0, n, i), ThinkingArms.NONE);
        }
    }

    private static void refused() {
        ThinkingArms x = with("*:gp");
        int[][] bad = {{-1, 0, 5, 0}, {1, 0, 5, 0}, {0, -1, 5, 0}, {0, 1, 5, 0}, {0, 0, 0, 0}, {0, 0, 21, 0}, {0, 0, 5, -1}, {0, 0, 5, 5},
            {MIN, 0, 5, 0}, {0, MAX, 5, 0}, {0, 0, MIN, 0}, {0, 0, 5, MAX}};
        for (int[] b : bad) {
            Check.due("fewest bad", x.fewest(b[0], b[1], b[2], b[3]), ThinkingArms.BAD);
        }
        x.ticks(1);
        Check.due("eaten", x.fewest(0, 0, 5, 0), ThinkingArms.NOT);
        Check.due("eaten, and any word", x.fewest(0, 0, 5, 4), ThinkingArms.NOT);
        Check.due("bad ahead of eaten", x.fewest(0, 0, 21, 0), ThinkingArms.BAD);
        none(with("*:g"), 20);
        none(with("w0:d"), 20);
        ThinkingArms y = new ThinkingArms();
        y.arm(3, 3, 2, 0);
        y.thing(4, 3, 0);
        none(y, 20);
    }

    private static void oneWord() {
        ThinkingArms x = with("w3:gp");
        none(x, 1);
        row(x, 2, 3);
        row(x, 20, 3);
        row(with("w0:gp"), 1, 0);
        row(with("*:gp"), 1, 0);
    }

    /** A word of ticks 1 and 2 is heard in 2 and 3, the next in 4 and 5. */
    private static void twoWords() {
        ThinkingArms x = with("w1:g;w2:p");
        none(x, 3);
        row(x, 4, 1, 2);
        row(x, 20, 1, 2);
    }

    private static void threeAndFourWords() {
        ThinkingArms x = with("w1&m0:s1;w2&m1:s2g;w3&m2:p");
        none(x, 5);
        row(x, 6, 1, 2, 3);
        row(x, 20, 1, 2, 3);
        ThinkingArms y = with("w1&m0:s1;w2&m1:s2;w3&m2:s3;w1&m3:gp");
        none(y, 7);
        row(y, 8, 1, 2, 3, 1);
        row(y, 20, 1, 2, 3, 1);
    }

    private static void fiveWords() {
        none(with("w1&m0:s1;w2&m1:s2;w3&m2:s3;w1&m3&!h:g;w2&m3&h:p"), 20);
    }

    /** Of as many words the least row, the first word counting most. */
    private static void leastRow() {
        row(with("w3:gp;w2:gp"), 20, 2);
        ThinkingArms x = with("w1:s1;w2:s1;w3&m1:gp");
        row(x, 20, 1, 3);
        row(with("w1:s1;w2:s2;w3&m1:gp;w0&m2:gp"), 20, 1, 3);
        row(with("w1&m0:s1;w2&m0:s2;w3&m2:gp;w0&m2:gp"), 20, 2, 0);
        row(with("w2:s1;w1&m1:s2;w3&m2:gp"), 20, 2, 1, 3);
    }

    /** A thing that needs four ticks of one word: said for 2 and, being the last, for more. */
    private static void lastWordGoesOn() {
        ThinkingArms x = with("w1&m0:s1;w1&m1:s2;w1&m2:s3;w1&m3:gp;*:s0");
        none(x, 4);
        row(x, 5, 1);
        ThinkingArms y = with("w2&m0:s1;w1&m1:s2;w1&m2:s3;w1&m3:gp;*:s0");
        none(y, 6);
        Check.due("the word ahead is heard twice, so the first time is undone", y.fewest(0, 0, 20, 0), ThinkingArms.NONE);
        row(with("w2:s1;w1&m1:s2;w1&m2:s3;w1&m3:gp;*:s0"), 6, 2, 1);
    }

    private static void othersHeads() {
        ThinkingArms x = with("w1:g;w2:p");
        x.arm(5, 3, 2, 3);
        Check.rules(x, 1, "w1:f");
        x.thing(5, 1, 1);
        none(x, 3);
        row(x, 4, 1, 2);
        Check.rules(x, 1, "w0&m0:s1;m1:gp");
        Check.due("another arm eats it whatever is said", x.fewest(0, 1, 2, 0), 1);
        Check.due("so the least word", x.fewest(0, 1, 2, 1), 0);
        Check.due("what is said to the other", x.fewest(1, 1, 2, 0), 1);
        Check.due("the first thing needs words to the first arm", x.fewest(1, 0, 20, 0), ThinkingArms.NONE);
        Check.rules(x, 1, "w3:gp");
        Check.due("a word to the other", x.fewest(1, 1, 20, 0), 1);
        Check.due("which one", x.fewest(1, 1, 20, 1), 3);
        Check.due("the other's head says 0", x.fewest(0, 1, 20, 0), ThinkingArms.NONE);
        x.head(1, 3);
        Check.due("the other's head says 3", x.fewest(0, 1, 20, 0), 1);
        Check.due("within the tick to the piece", x.fewest(0, 1, 1, 0), ThinkingArms.NONE);
    }

    /** What was said in the tick ahead is heard still; what the head says now counts for nothing. */
    private static void fromNowOn() {
        ThinkingArms x = with("w1:gp");
        x.head(0, 1);
        none(x, 1);
        row(x, 2, 1);
        ThinkingArms y = with("w1&m1:gp;*:s1");
        y.head(0, 1);
        y.ticks(1);
        row(y, 1, 0);
        Check.due("the head's word is as it was", y.head(0, 1), 1);
    }

    private static void cutArm() {
        ThinkingArms x = new ThinkingArms();
        x.arm(2, 3, 3, 0);
        x.thing(3, 4, 0);
        Check.rules(x, 0, "w1:gp");
        x.cut(0, 2);
        row(x, 2, 1);
        ThinkingArms y = with("w1:gp");
        y.cut(0, 1);
        none(y, 20);
    }

    private static void allIsAsItWas() {
        ThinkingArms x = with("w1:gf;w2:po1s2");
        row(x, 20, 1, 2);
        Check.due("ticks", x.count(6), 0);
        Check.due("head", x.head(0, 0), 0);
        Check.due("cell", x.piece(0, 1, 0), 28);
        Check.due("memory", x.piece(0, 1, 1), 0);
        Check.due("held", x.piece(0, 1, 2), ThinkingArms.NONE);
        Check.due("said", x.piece(0, 1, 3), 0);
        Check.due("lying", x.told(0, 0), 0);
        Check.due("there", x.told(0, 1), 28);
        Check.due("walls can't be there", x.wall(4, 3, true), ThinkingArms.NOT);
        Check.due("walls can be where the tip went", x.wall(3, 4, true), 0);
    }
}

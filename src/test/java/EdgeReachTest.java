/** The sentences of "3 REACH" and "FEWEST" that name an edge, each with a test of its own; promises 18 to 21. */
public final class EdgeReachTest {
    private static final int BAD = -1, NOT = -2, NONE = -4;

    public static void main(String[] args) {
        itsOwnForm();
        byAnyTurn();
        formsInTheOpen();
        formsNeverLeaveTheSea();
        onlyByFlipsAndTurns();
        alikeButForOneThing();
        othersAsTheyAre();
        anArmThatIsCut();
        farAtEveryCell();
        farthestOfSeven();
        nIs1To20();
        iIs1To4();
        wordsAre1To4();
        twoTicksEach();
        theLastOneGoesOn();
        theLeastRow();
        toOneArm();
        withinNTicks();
        whatIsEaten();
        allIsAsItWas();
        Check.end();
    }

    /** "(its own, too)"; "(by some, or 0, FLIPS, TURNS)" */
    private static void itsOwnForm() {
        for (int n = 2; n <= 7; n++) {
            ThinkingArms x = new ThinkingArms();
            x.sheet(0, 0, 64);
            for (int c = 0; c < 64; c++) {
                x.item(0, 0, c, c < n ? 0 : 1);
            }
            x.walls(0);
            x.arm(0, 0, n, 0);
            Check.due("shut in, of " + n, x.forms(0), 1);
            Check.due("its own cell", x.reach(0), 1);
            Check.due("where it is", x.far(0, n - 1, 0), 0);
            Check.due("at piece 0", x.far(0, 0, 0), NONE);
            Check.due("at a wall", x.far(0, 7, 7), NONE);
        }
    }

    /** "(a TURN here to any SIDE that leads to a free CELL)" */
    private static void byAnyTurn() {
        int[] step = {1, 8, -1, -8};
        for (int from = 0; from < 4; from++) {
            for (int shut = 0; shut < 16; shut++) {
                if ((shut >> from & 1) != 0) {
                    continue;
                }
                ThinkingArms x = new ThinkingArms();
                x.arm(3, 3, 2, from);
                for (int s = 0; s < 4; s++) {
                    int cell = 27 + step[s];
                    if ((shut >> s & 1) != 0) {
                        x.wall(cell % 8, cell / 8, true);
                    }
                }
                Check.due("forms", x.forms(0), 4 - Integer.bitCount(shut));
                Check.due("cells", x.reach(0), 4 - Integer.bitCount(shut));
                for (int s = 0; s < 4; s++) {
                    int cell = 27 + step[s];
                    int want = s == from ? 0 : (shut >> s & 1) != 0 ? NONE : 1;
                    Check.due("side " + s + " from " + from, x.far(0, cell % 8, cell / 8), want);
                }
            }
        }
    }

    /** In the open all forms that do not cross themselves: of the 100 of five pieces two leave the sea. */
    private static void formsInTheOpen() {
        int[] forms = {4, 12, 36, 100 - 2};
        int[] cells = {4, 8, 16, 24 - 2};
        for (int n = 2; n <= 5; n++) {
            ThinkingArms x = new ThinkingArms();
            x.arm(3, 3, n, 0);
            Check.due("forms of " + n, x.forms(0), forms[n - 2]);
            Check.due("cells of " + n, x.reach(0), cells[n - 2]);
        }
    }

    /** A cell of the tip is no farther than the pieces reach, of the colour of the board that they come to. */
    private static void formsNeverLeaveTheSea() {
        int[][] corners = {{0, 0, 0}, {7, 0, 1365}, {7, 7, 2730}, {0, 7, 4095}};
        for (int[] c : corners) {
            ThinkingArms x = new ThinkingArms();
            x.arm(c[0], c[1], 7, c[2]);
            int reached = 0;
            for (int cell = 0; cell < 64; cell++) {
                int far = x.far(0, cell % 8, cell / 8);
                int apart = Math.abs(cell % 8 - c[0]) + Math.abs(cell / 8 - c[1]);
                boolean can = apart <= 6 && apart % 2 == 0 && apart > 0;
                Check.holds("cell " + cell, far >= 0 == can);
                reached += far >= 0 ? 1 : 0;
            }
            Check.due("from a corner", x.reach(0), reached);
            Check.due("3, 5 and 7 cells of the sea are 2, 4 and 6 away", reached, 15);
        }
    }

    /** "FORMS it can come to by FLIPS and TURNS one by one": others are there, too, but it can't come to them. */
    private static void onlyByFlipsAndTurns() {
        ThinkingArms x = new ThinkingArms();
        x.arm(3, 3, 3, 0);
        x.wall(4, 2, true);
        x.wall(4, 4, true);
        Check.due("shut in by two corners", x.forms(0), 1);
        Check.due("the way round is free but can't be begun", x.far(0, 1, 3), NONE);
        x.wall(4, 4, false);
        Check.due("one corner free", x.far(0, 4, 4), 1);
        Check.due("by it round", x.far(0, 1, 3), 5);
        ThinkingArms y = new ThinkingArms();
        y.arm(3, 3, 4, 0 + 4 * 1 + 16 * 2);
        y.wall(5, 4, true);
        y.wall(4, 5, true);
        Check.due("curled up behind walls: its tip is shut in, and nothing flips over it", y.forms(0), 1);
        Check.due("its tip", y.far(0, 3, 4), 0);
    }

    /** Two arms that are alike but for one thing have each a reach of its own. */
    private static void alikeButForOneThing() {
        ThinkingArms x = new ThinkingArms();
        x.image(0);
        x.arm(3, 3, 3, 0);
        Check.due("three pieces", x.forms(0), 12);
        x.restore(0);
        x.wall(5, 3, true);
        x.arm(3, 3, 2, 0);
        Check.due("two, and a wall where the third was", x.forms(0), 4);
        Check.due("their cells", x.reach(0), 4);
        x.restore(0);
        x.arm(3, 3, 4, 0 + 4 * 1 + 16 * 2);
        Check.due("its tip", x.far(0, 3, 4), 0);
        x.restore(0);
        x.arm(3, 3, 4, 1 + 4 * 0 + 16 * 3);
        Check.due("the same cells the other way round", x.far(0, 4, 3), 0);
        x.restore(0);
        x.arm(3, 4, 4, 0 + 4 * 3 + 16 * 2);
        Check.due("the same cells from another one on", x.far(0, 3, 3), 0);
        ThinkingArms y = new ThinkingArms();
        y.arm(1, 0, 2, 0);
        Check.due("a turn to the first cell", y.far(0, 0, 0), 1);
        Check.due("its cells", y.reach(0), 3);
        y.arm(1, 4, 2, 0);
        Check.due("the other's", y.reach(1), 4);
        Check.due("its cells again", y.reach(0), 3);
    }

    /** "others as they are" */
    private static void othersAsTheyAre() {
        ThinkingArms x = new ThinkingArms();
        x.arm(0, 0, 2, 0);
        x.arm(0, 1, 2, 0);
        Check.due("another is in the way", x.forms(0), 1);
        Check.due("of the other", x.forms(1), 2);
        x.cut(1, 1);
        Check.due("a cut one is in the way, too", x.forms(0), 1);
        x.thing(0, 1, 0);
        Check.due("a thing is not", x.forms(0), 1);
        ThinkingArms y = new ThinkingArms();
        y.arm(0, 0, 2, 0);
        y.thing(0, 1, 0);
        Check.due("a thing is not", y.far(0, 0, 1), 1);
    }

    /** "REACH of an ARM (that is not CUT)" */
    private static void anArmThatIsCut() {
        for (int at = 1; at < 4; at++) {
            ThinkingArms x = new ThinkingArms();
            x.arm(3, 3, 4, 0);
            x.arm(3, 5, 2, 0);
            x.forms(0);
            x.cut(0, at);
            Check.due("forms", x.forms(0), NOT);
            Check.due("reach", x.reach(0), NOT);
            Check.due("far", x.far(0, 6, 3), NOT);
            Check.due("far, no such cell", x.far(0, 8, 3), BAD);
            Check.due("the other", x.forms(1), 4);
        }
    }

    /** "the fewest of them with which the TIP is at a CELL" */
    private static void farAtEveryCell() {
        ThinkingArms x = new ThinkingArms();
        x.arm(0, 0, 3, 0);
        int[][] far = {{2, 0, 0}, {1, 1, 1}, {0, 2, 3}};
        for (int cell = 0; cell < 64; cell++) {
            int want = NONE;
            for (int[] f : far) {
                want = cell == 8 * f[1] + f[0] ? f[2] : want;
            }
            Check.due("cell " + cell, x.far(0, cell % 8, cell / 8), want);
        }
        Check.due("forms: east-east, -south; south-east, -south", x.forms(0), 4);
        Check.due("cells", x.reach(0), 3);
    }

    /** Along a corridor of two rows a straight arm of seven goes over to the other row and stands there. */
    private static void farthestOfSeven() {
        ThinkingArms x = new ThinkingArms();
        x.sheet(0, 0, 64);
        for (int c = 16; c < 64; c++) {
            x.item(0, 0, c, 1);
        }
        x.walls(0);
        x.arm(0, 0, 7, 0);
        Check.due("down at the end", x.far(0, 5, 1), 1);
        Check.due("where it is", x.far(0, 6, 0), 0);
        Check.due("beyond it", x.far(0, 7, 1), NONE);
        // south first, then five to the east: the bend goes from the tip to piece 1 by a turn and five flips
        x.flip(0, 6);
        for (int k = 5; k >= 1; k--) {
            Check.due("flip " + k, x.flip(0, k), 8 + k - 1);
        }
        Check.due("the other row, where it was one step ahead", x.far(0, 5, 1), 0);
        Check.due("back by as many", x.far(0, 6, 0), 6);
    }

    // ---- fewest

    /** An arm of two pieces at 3, 3 and a thing at its tip. */
    private static ThinkingArms with(String rules) {
        ThinkingArms x = new ThinkingArms();
        x.arm(3, 3, 2, 0);
        x.thing(4, 3, 0);
        Check.rules(x, 0, rules);
        return x;
    }

    /** The row within each number of ticks: none while too few, then always the same. */
    private static void row(String rules, int least, int... want) {
        ThinkingArms x = with(rules);
        for (int n = 1; n <= 20; n++) {
            Check.due(rules + " within " + n, x.fewest(0, 0, n, 0), n >= least ? want.length : NONE);
            for (int i = 1; i <= 4; i++) {
                int word = n < least ? NONE : i <= want.length ? want[i - 1] : BAD;
                Check.due(rules + " within " + n + ", word " + i, x.fewest(0, 0, n, i), word);
            }
        }
    }

    /** "within n TICKS (1 .. 20)" */
    private static void nIs1To20() {
        ThinkingArms x = with("*:gp");
        Check.due("0", x.fewest(0, 0, 0, 0), BAD);
        Check.due("1", x.fewest(0, 0, 1, 0), 1);
        Check.due("20", x.fewest(0, 0, 20, 0), 1);
        Check.due("21", x.fewest(0, 0, 21, 0), BAD);
        // six pieces to pass by: grabbed in the first tick
        ThinkingArms y = new ThinkingArms();
        y.arm(0, 0, 7, 0);
        y.thing(7, 0, 0);
        Check.rules(y, 0, "x&!h:g;h:p");
        Check.due("6", y.fewest(0, 0, 6, 0), NONE);
        Check.due("7", y.fewest(0, 0, 7, 0), 1);
        // the tip waits for a tick; each piece that holds waits for two and passes on in the third
        ThinkingArms z = new ThinkingArms();
        z.arm(0, 0, 7, 0);
        z.thing(7, 0, 0);
        Check.rules(z, 0, "h&m2:ps0;h&m1:s2;h:s1;x&m1:gs0;x:s1");
        Check.due("19", z.fewest(0, 0, 19, 0), NONE);
        Check.due("20: grabbed in the second, passed six times", z.fewest(0, 0, 20, 0), 1);
        Check.due("21", z.fewest(0, 0, 21, 0), BAD);
        Check.due("so it is", z.ticks(19), 0);
        Check.due("so it is", z.ticks(1), 1);
    }

    /** "how many (0), or the i-th (1 .. 4). BAD: also beyond" */
    private static void iIs1To4() {
        String[] rules = {"*:gp", "w1:g;w2:p", "w1&m0:s1;w2&m1:s2g;w3&m2:p", "w1&m0:s1;w2&m1:s2;w3&m2:s3;w1&m3:gp"};
        for (int count = 1; count <= 4; count++) {
            ThinkingArms x = with(rules[count - 1]);
            Check.due("-1", x.fewest(0, 0, 20, -1), BAD);
            Check.due("how many", x.fewest(0, 0, 20, 0), count);
            for (int i = 1; i <= 4; i++) {
                Check.holds("the " + i + "-th of " + count, x.fewest(0, 0, 20, i) == BAD == i > count);
            }
            Check.due("5", x.fewest(0, 0, 20, 5), BAD);
        }
    }

    /** "the least number of words (1 .. 4 ..)" */
    private static void wordsAre1To4() {
        row("*:gp", 1, 0);
        row("w1:gp", 2, 1);
        row("w1:g;w2:p", 4, 1, 2);
        row("w1&m0:s1;w2&m1:s2g;w3&m2:p", 6, 1, 2, 3);
        row("w1&m0:s1;w2&m1:s2;w3&m2:s3;w1&m3:gp", 8, 1, 2, 3, 1);
        // a fifth is one too many
        row("w1&m0:s1;w2&m1:s2;w3&m2:s3;w1&m3&!h:g;w2&m3&h:p", 21);
        // nor is there any word beside 0 .. 3
        row("!w0&!w1&!w2&!w3:gp", 21);
        row("w1&t1:gp;w2&t2:gp;w3&t3:gp", 21);
    }

    /** "words are said for 2 TICKS each, one behind the other" */
    private static void twoTicksEach() {
        // heard twice: the first time grabs, the second passes on; thrice it would have to be the last
        row("w1&h:p;w1:g", 3, 1);
        row("w1&m0:s1;w1&m1:s2;w1&m2:s3;w2&m2:gp;w2&m3:d", 4, 1, 2);
        // a word heard but once ahead of another can't be: this would need it
        row("w1&m0:s1;w1&m1:s3;w2&m1:gp", 21);
    }

    /** "the last one goes on" */
    private static void theLastOneGoesOn() {
        row("w2&m0:s1;w2&m1:s2;w2&m2:s3;w2&m3:gp;*:s0", 5, 2);
        row("w1:s1;w2&m1:s2;w2&m2:s3;w2&m3:gp;*:s0", 6, 1, 2);
    }

    /** "of as many the least row (the first word counts most)" */
    private static void theLeastRow() {
        row("!w0:gp", 2, 1);
        row("w3|w2:gp", 2, 2);
        row("w1|w2:s1;w3&m1:gp", 4, 1, 3);
        row("w1&m0:s1;w3&m0:s2;w3&m1:gp;w0&m2:gp", 4, 1, 3);
        row("w2&m0:s1;w3&m0:s2;w3&m1:gp;w0&m2:gp;w1&m2:gp", 4, 2, 3);
        row("w3&m0:s1;m1&(w1|w2):gp", 4, 3, 1);
        row("w0:s0;w1&m0:s1;w2&m0:s1;m1&w3:s2;m2&(w2|w1):gp", 6, 1, 3, 1);
    }

    /** "(.. to one ARM, others' HEADS as they are)" */
    private static void toOneArm() {
        ThinkingArms x = with("w1:g;w2:p");
        x.arm(3, 5, 2, 0);
        x.thing(4, 5, 0);
        Check.rules(x, 1, "w2:gp");
        Check.due("its own words", x.fewest(0, 0, 20, 0), 2);
        Check.due("the other's words do nothing for it", x.fewest(1, 0, 20, 0), NONE);
        Check.due("the other's thing", x.fewest(1, 1, 20, 1), 2);
        Check.due("not by the first one's", x.fewest(0, 1, 20, 0), NONE);
        x.head(1, 2);
        Check.due("the other's head says it", x.fewest(0, 1, 2, 0), 1);
        Check.due("the least word to the first", x.fewest(0, 1, 2, 1), 0);
        Check.due("a word takes a tick", x.fewest(0, 1, 1, 0), NONE);
        x.head(0, 3);
        Check.due("its own head is not as it is", x.fewest(0, 0, 4, 0), 2);
    }

    /** "within n TICKS from now" */
    private static void withinNTicks() {
        ThinkingArms x = with("w1&m0:s1;m1:s2;m2:s3;m3:gp");
        x.head(0, 1);
        Check.due("five from now", x.fewest(0, 0, 4, 0), NONE);
        Check.due("five from now", x.fewest(0, 0, 5, 0), 1);
        for (int t = 1; t <= 4; t++) {
            x.ticks(1);
            if (t < 4) {
                Check.due("from now, too few", x.fewest(0, 0, 4 - t, 0), NONE);
            }
            Check.due("from now", x.fewest(0, 0, 5 - t, 0), 1);
            Check.due("what it was told is on its way, so any word", x.fewest(0, 0, 5 - t, 1), 0);
        }
    }

    /** "NOT: it is EATEN" */
    private static void whatIsEaten() {
        ThinkingArms x = with("*:gp");
        x.thing(7, 7, 0);
        Check.due("it lies", x.fewest(0, 0, 20, 0), 1);
        Check.rules(x, 0, "*:g");
        x.ticks(1);
        Check.due("held, never eaten", x.fewest(0, 0, 20, 0), NONE);
        Check.rules(x, 0, "w3:p");
        Check.due("held", x.fewest(0, 0, 20, 1), 3);
        Check.rules(x, 0, "*:p");
        x.ticks(1);
        for (int i = 0; i <= 4; i++) {
            Check.due("eaten", x.fewest(0, 0, 20, i), NOT);
        }
        Check.due("bad ahead of it", x.fewest(0, 0, 20, 5), BAD);
        Check.due("the other", x.fewest(0, 1, 20, 0), NONE);
    }

    /** "All is as it was behind it." */
    private static void allIsAsItWas() {
        for (int what = 0; what <= 4; what++) {
            int i = what;
            int[] want = {2, 1, 2, BAD, BAD};
            Twins.unchanged("fewest " + what, x -> {
                x.arm(3, 3, 4, 0);
                x.arm(0, 7, 3, 0);
                x.thing(6, 4, 0);
                x.thing(1, 6, 1);
                Check.rules(x, 0, "x&w1:gs1o1;w2&h:po2;w1:fo1;w2:o2;h:s2");
                Check.rules(x, 1, "*:gfps1");
                x.head(0, 3);
                x.head(1, 2);
                x.image(0);
                x.ticks(1);
                x.head(0, 2);
            }, x -> x.fewest(0, 0, 20, i), want[what]);
        }
    }
}

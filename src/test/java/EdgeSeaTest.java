/** The sentences of "1 THE SEA" that name an edge, each with a test of its own; promises 1, 2 and 4 to 9. */
public final class EdgeSeaTest {
    private static final int BAD = -1, NOT = -2, FULL = -3, NONE = -4, NULL = -11;
    private static final int[] STEP = {1, 8, -1, -8};

    public static void main(String[] args) {
        anEmptySea();
        objectsShareNothing();
        cellsAre0To7();
        cellIs8YAndX();
        wallsAtFirstNot();
        whetherItWas();
        sidesAreEastSouthWestNorth();
        armsAre0To2AsTheyCome();
        twoToSevenPieces();
        formCountsByFours();
        onNoWall();
        noTwoPiecesOnOneCell();
        noArmOutOfTheSea();
        anArmOverThings();
        theLastOneIsTheTip();
        piece0NeverMoves();
        thingsAre0To7AsTheyCome();
        noWallAndNoThingLying();
        tastesAre0To3();
        lyingHeldEaten();
        aPieceHoldsOneAtMost();
        flipsAtEveryBend();
        flipsOnlyIfByACorner();
        flipsAtTheSeasCorners();
        flipsToNoWallNoPiece();
        turnsToTheFirstSideBehind();
        turnsPastWhatIsInTheWay();
        turnsNotToWhereItIs();
        turnsWithinTheSea();
        formOfEveryArm();
        formOfACutArm();
        wallWhereAPieceWas();
        Check.end();
    }

    /** "An empty sea." */
    private static void anEmptySea() {
        ThinkingArms x = new ThinkingArms();
        for (int what = 0; what <= 6; what++) {
            Check.due("count " + what, x.count(what), 0);
        }
        Check.due("no arm", x.form(0), BAD);
        Check.due("no arm", x.forms(0), BAD);
        Check.due("no thing", x.told(0, 0), BAD);
        Check.due("no image", x.restore(0), NONE);
        Check.due("no image", x.restore(1), NONE);
        Check.due("a tick of nothing", x.ticks(1), 0);
        Check.due("the empty tape", x.type('*', 1), 1);
        for (int s = 0; s < 4; s++) {
            Check.due("no row", x.drop(s), NULL);
        }
    }

    private static void objectsShareNothing() {
        ThinkingArms x = new ThinkingArms();
        x.arm(0, 0, 2, 0);
        x.thing(5, 5, 1);
        x.wall(7, 7, true);
        x.type('*', 1);
        x.skin(1);
        x.sheet(0, 0, 5);
        x.image(0);
        x.ticks(3);
        ThinkingArms y = new ThinkingArms();
        for (int what = 0; what <= 6; what++) {
            Check.due("another object's count " + what, y.count(what), 0);
        }
        Check.due("its tape", y.type('*', 1), 1);
        Check.due("its skin", y.skin(3), 3);
        Check.due("its sheet", y.drop(0), NULL);
        Check.due("its image", y.restore(0), NONE);
        Check.due("the first one's arms", x.count(0), 1);
    }

    /** "CELLS x, y 0 .. 7" */
    private static void cellsAre0To7() {
        ThinkingArms x = new ThinkingArms();
        for (int c = 0; c < 64; c++) {
            Check.due("wall " + c, x.wall(c % 8, c / 8, true), 0);
        }
        Check.due("a full sea", x.count(5), 64);
        Check.due("no room for an arm", x.arm(3, 3, 2, 0), NOT);
        Check.due("nor for a thing", x.thing(3, 3, 0), NOT);
        int[] ends = {0, 7};
        int[] beyond = {-1, 8};
        for (int e : ends) {
            for (int b : beyond) {
                ThinkingArms y = new ThinkingArms();
                Check.due("wall " + e + " " + b, y.wall(e, b, true), BAD);
                Check.due("wall " + b + " " + e, y.wall(b, e, true), BAD);
                Check.due("thing " + e + " " + b, y.thing(e, b, 0), BAD);
                Check.due("thing " + b + " " + e, y.thing(b, e, 0), BAD);
                Check.due("arm " + e + " " + b, y.arm(e, b, 2, 0), BAD);
                Check.due("arm " + b + " " + e, y.arm(b, e, 2, 0), BAD);
                y.arm(3, 3, 2, 0);
                Check.due("far " + e + " " + b, y.far(0, e, b), BAD);
                Check.due("far " + b + " " + e, y.far(0, b, e), BAD);
                Check.due("far at a corner", y.far(0, e, ends[0]), NONE);
                Check.due("far at a corner", y.far(0, e, ends[1]), NONE);
            }
        }
    }

    /** "CELL 8 y and x" */
    private static void cellIs8YAndX() {
        int[][] places = {{0, 0, 0}, {7, 0, 7}, {0, 7, 56}, {7, 7, 63}, {3, 5, 43}, {5, 3, 29}};
        for (int[] p : places) {
            ThinkingArms x = new ThinkingArms();
            x.thing(p[0], p[1], 0);
            Check.due("cell of a thing", x.told(0, 1), p[2]);
            x.arm(p[0], p[1], 2, p[0] < 7 ? 0 : 2);
            Check.due("cell of piece 0", x.piece(0, 0, 0), p[2]);
            Check.due("cell of piece 1", x.piece(0, 1, 0), p[2] + (p[0] < 7 ? 1 : -1));
        }
    }

    /** "WALLS or not (at first not)" */
    private static void wallsAtFirstNot() {
        ThinkingArms x = new ThinkingArms();
        for (int c = 0; c < 64; c++) {
            Check.due("no wall " + c, x.wall(c % 8, c / 8, false), 0);
        }
        Check.due("none", x.count(5), 0);
    }

    /** "whether it was (1, 0)" */
    private static void whetherItWas() {
        ThinkingArms x = new ThinkingArms();
        Check.due("none was, one is", x.wall(7, 7, true), 0);
        Check.due("one was, one is", x.wall(7, 7, true), 1);
        Check.due("counted once", x.count(5), 1);
        Check.due("one was, none is", x.wall(7, 7, false), 1);
        Check.due("none was, none is", x.wall(7, 7, false), 0);
        Check.due("none", x.count(5), 0);
    }

    /** "SIDES are 0 east (x more), 1 south (y more), 2 west, 3 north." */
    private static void sidesAreEastSouthWestNorth() {
        int[] cells = {28, 35, 26, 19};
        for (int s = 0; s < 4; s++) {
            ThinkingArms x = new ThinkingArms();
            Check.due("side " + s, x.arm(3, 3, 2, s), 0);
            Check.due("its cell", x.piece(0, 1, 0), cells[s]);
            Check.due("its form", x.form(0), s);
        }
    }

    /** "ARMS 0 .. 2, as they come"; "FULL: 3" */
    private static void armsAre0To2AsTheyCome() {
        ThinkingArms x = new ThinkingArms();
        for (int a = 0; a < 3; a++) {
            Check.due("not yet", x.form(a), BAD);
            Check.due("arm " + a, x.arm(0, a, 2, 0), a);
            Check.due("now", x.form(a), 0);
        }
        Check.due("full", x.arm(0, 3, 2, 0), FULL);
        Check.due("three", x.count(0), 3);
        Check.due("no arm 3", x.form(3), BAD);
        x.cut(2, 1);
        Check.due("a cut one counts", x.arm(0, 3, 2, 0), FULL);
    }

    /** "2 to 7 PIECES" */
    private static void twoToSevenPieces() {
        for (int n = 1; n <= 8; n++) {
            ThinkingArms x = new ThinkingArms();
            boolean can = n >= 2 && n <= 7;
            Check.due(n + " pieces", x.arm(0, 0, n, 0), can ? 0 : BAD);
            Check.due("the last of " + n, x.piece(0, n - 1, 0), can ? n - 1 : BAD);
            Check.due("none behind it", x.piece(0, n, 0), BAD);
        }
    }

    /** "the FORM: SIDE of PIECE 1, 4 times that of 2, and so on" */
    private static void formCountsByFours() {
        int beyond = 1;
        for (int n = 2; n <= 7; n++) {
            beyond *= 4;
            ThinkingArms x = new ThinkingArms();
            Check.due("form -1 of " + n, x.arm(0, 7, n, -1), BAD);
            Check.due("form " + beyond + " of " + n, x.arm(0, 7, n, beyond), BAD);
            Check.due("form 0 of " + n, x.arm(0, 0, n, 0), 0);
            Check.due("all to the north", x.arm(7, 7, n, beyond - 1), 1);
            Check.due("the tip's cell", x.piece(1, n - 1, 0), 63 - 8 * (n - 1));
            Check.due("its form", x.form(1), beyond - 1);
        }
        for (int k = 1; k < 7; k++) {
            ThinkingArms x = new ThinkingArms();
            int form = 1 << 2 * (k - 1);
            x.arm(0, 0, 7, form);
            for (int p = 0; p < 7; p++) {
                Check.due("piece " + p + ", south at " + k, x.piece(0, p, 0), p < k ? p : 8 + p - 1);
            }
            Check.due("its form", x.form(0), form);
        }
    }

    /** "on no WALL" */
    private static void onNoWall() {
        for (int k = 0; k < 7; k++) {
            ThinkingArms x = new ThinkingArms();
            x.wall(k, 4, true);
            Check.due("piece " + k + " on a wall", x.arm(0, 4, 7, 0), NOT);
            Check.due("none came", x.count(0), 0);
            x.wall(k, 4, false);
            Check.due("no wall there", x.arm(0, 4, 7, 0), 0);
        }
        ThinkingArms x = new ThinkingArms();
        x.wall(7, 4, true);
        Check.due("up to a wall", x.arm(0, 4, 7, 0), 0);
    }

    /** "no two PIECES (of any ARM) on one CELL" */
    private static void noTwoPiecesOnOneCell() {
        for (int k = 0; k < 7; k++) {
            ThinkingArms x = new ThinkingArms();
            x.arm(k, 4, 2, 1);
            Check.due("another's piece 0 at " + k, x.arm(0, 4, 7, 0), NOT);
            ThinkingArms y = new ThinkingArms();
            y.arm(k, 5, 2, 3);
            Check.due("another's tip at " + k, y.arm(0, 4, 7, 0), NOT);
            Check.due("beside it", y.arm(0, 3, 7, 0), 1);
        }
        for (int s = 0; s < 4; s++) {
            ThinkingArms x = new ThinkingArms();
            int back = s ^ 2;
            Check.due("back to piece 0", x.arm(3, 3, 3, s + 4 * back), NOT);
            Check.due("back to piece 1", x.arm(3, 3, 4, s + 4 * s + 16 * back), NOT);
            int next = s + 1 & 3;
            int ring = s + 4 * next + 16 * back + 64 * (next ^ 2);
            Check.due("round to piece 0", x.arm(3, 3, 5, ring), NOT);
            Check.due("almost round", x.arm(3, 3, 4, ring & 63), 0);
        }
    }

    /** An arm is "on a sea of cells": no piece beyond its ends, nor round to the other end. */
    private static void noArmOutOfTheSea() {
        for (int n = 2; n <= 7; n++) {
            int north = (1 << 2 * (n - 1)) - 1;
            int[] forms = {0, north / 3, north / 3 * 2, north};
            int[][] last = {{8 - n, 3}, {3, 8 - n}, {n - 1, 3}, {3, n - 1}};
            int[][] beyond = {{9 - n, 3}, {3, 9 - n}, {n - 2, 3}, {3, n - 2}};
            for (int s = 0; s < 4; s++) {
                ThinkingArms x = new ThinkingArms();
                Check.due(n + " out to side " + s, x.arm(beyond[s][0], beyond[s][1], n, forms[s]), NOT);
                Check.due(n + " up to the end of side " + s, x.arm(last[s][0], last[s][1], n, forms[s]), 0);
            }
        }
    }

    private static void anArmOverThings() {
        ThinkingArms x = new ThinkingArms();
        x.thing(0, 0, 0);
        x.thing(1, 0, 1);
        Check.due("over two things", x.arm(0, 0, 2, 0), 0);
        Check.due("they lie", x.count(2), 2);
        Check.due("a piece on a thing: no wall", x.wall(0, 0, true), NOT);
    }

    /** "The last one is the TIP" */
    private static void theLastOneIsTheTip() {
        for (int n = 2; n <= 7; n++) {
            ThinkingArms x = new ThinkingArms();
            x.arm(0, 0, n, 0);
            for (int k = 0; k < n; k++) {
                Check.due("tip " + k + " of " + n, x.piece(0, k, 5), k == n - 1 ? 1 : 0);
                Check.due("cut " + k + " of " + n, x.piece(0, k, 4), 0);
            }
        }
    }

    /** "PIECE 0 never moves." */
    private static void piece0NeverMoves() {
        ThinkingArms x = new ThinkingArms();
        x.arm(3, 3, 5, 0);
        Check.due("bad", x.flip(0, 0), BAD);
        Check.rules(x, 0, "*:ffff");
        for (int t = 0; t < 20; t++) {
            x.ticks(3);
            Check.due("where it was", x.piece(0, 0, 0), 27);
        }
        ThinkingArms y = new ThinkingArms();
        y.arm(3, 3, 2, 0);
        y.cut(0, 1);
        Check.due("it is a tip", y.piece(0, 0, 5), 1);
        Check.due("bad all the same", y.flip(0, 0), BAD);
        Check.rules(y, 0, "*:f");
        y.ticks(4);
        Check.due("where it was", y.piece(0, 0, 0), 27);
    }

    /** "THINGS 0 .. 7, as they come"; "FULL: 8" */
    private static void thingsAre0To7AsTheyCome() {
        ThinkingArms x = new ThinkingArms();
        for (int t = 0; t < 8; t++) {
            Check.due("not yet", x.told(t, 0), BAD);
            Check.due("thing " + t, x.thing(7 - t, t, t % 4), t);
            Check.due("its cell", x.told(t, 1), 7 * t + 7);
            Check.due("its taste", x.told(t, 2), t % 4);
        }
        Check.due("full", x.thing(0, 0, 0), FULL);
        Check.due("no thing 8", x.told(8, 0), BAD);
        Check.due("eight", x.count(1), 8);
        ThinkingArms y = new ThinkingArms();
        y.arm(0, 0, 2, 0);
        Check.rules(y, 0, "*:gp");
        for (int t = 0; t < 8; t++) {
            Check.due("thing " + t, y.thing(1, 0, 0), t);
            Check.due("eaten", y.ticks(1), t + 1);
        }
        Check.due("eaten ones count", y.thing(1, 0, 0), FULL);
        Check.due("eight", y.count(4), 8);
    }

    /** "at a CELL that is no WALL and has no THING LYING" */
    private static void noWallAndNoThingLying() {
        ThinkingArms x = new ThinkingArms();
        x.arm(0, 0, 2, 0);
        x.wall(5, 5, true);
        Check.due("a wall", x.thing(5, 5, 0), NOT);
        x.wall(5, 5, false);
        Check.due("no wall now", x.thing(5, 5, 0), 0);
        Check.due("one is lying", x.thing(5, 5, 0), NOT);
        Check.due("at piece 0", x.thing(0, 0, 3), 1);
        Check.due("at the tip", x.thing(1, 0, 1), 2);
        Check.rules(x, 0, "*:g");
        x.ticks(1);
        Check.due("where a held one lay, at its piece", x.thing(1, 0, 2), 3);
        Check.due("again", x.thing(1, 0, 2), NOT);
        Check.rules(x, 0, "*:p");
        Check.due("eaten", x.ticks(1), 1);
        Check.due("the other lies still", x.thing(1, 0, 2), NOT);
    }

    /** "of a TASTE (0 .. 3)" */
    private static void tastesAre0To3() {
        ThinkingArms x = new ThinkingArms();
        Check.due("-1", x.thing(0, 0, -1), BAD);
        Check.due("4", x.thing(0, 0, 4), BAD);
        for (int t = 0; t < 4; t++) {
            Check.due("taste " + t, x.thing(t, 0, t), t);
            Check.due("taste " + t, x.told(t, 2), t);
            Check.due("of any taste: no wall", x.wall(t, 0, true), NOT);
            Check.due("of any taste: no other", x.thing(t, 0, 3 - t), NOT);
        }
    }

    /** "A THING is LYING (0), HELD by a PIECE (1), EATEN (2)"; what told tells of each */
    private static void lyingHeldEaten() {
        ThinkingArms x = new ThinkingArms();
        x.arm(7, 7, 2, 2);
        x.arm(0, 0, 2, 0);
        x.arm(7, 0, 7, 2 + 4 + 16 + 64 + 256 + 1024);
        x.thing(6, 6, 0);
        int tip = x.piece(2, 6, 0);
        Check.due("the third arm's tip", tip, 46);
        told(x, "lying", 0, 54, NONE);
        Check.rules(x, 2, "x:g;h:p");
        x.ticks(1);
        told(x, "held by the third arm's tip", 1, 46, 26);
        Check.rules(x, 2, "h:p");
        int[] holds = {38, 30, 22, 14, 6};
        for (int k = 0; k < 5; k++) {
            x.ticks(1);
            told(x, "held on", 1, holds[k], 25 - k);
        }
        x.ticks(1);
        told(x, "eaten by the third arm", 2, NONE, 20);
        x.ticks(1);
        told(x, "eaten once and for all", 2, NONE, 20);
    }

    private static void told(ThinkingArms x, String name, int how, int cell, int who) {
        Check.due(name + ": how", x.told(0, 0), how);
        Check.due(name + ": cell", x.told(0, 1), cell);
        Check.due(name + ": taste", x.told(0, 2), 0);
        Check.due(name + ": who", x.told(0, 3), who);
    }

    /** "A PIECE holds one at most." */
    private static void aPieceHoldsOneAtMost() {
        ThinkingArms x = new ThinkingArms();
        x.arm(0, 0, 2, 0);
        x.thing(1, 0, 0);
        x.thing(2, 0, 1);
        x.thing(1, 1, 2);
        Check.rules(x, 0, "*:gggg");
        x.ticks(60);
        Check.due("one is held", x.count(3), 1);
        Check.due("the first", x.piece(0, 1, 2), 0);
        Check.due("two lie", x.count(2), 2);
    }

    /** "can FLIP, if the PIECES beside it in the ARM touch one another's CELLS by a corner alone: it goes to the other CELL that is beside both" */
    private static void flipsAtEveryBend() {
        for (int s = 0; s < 4; s++) {
            for (int turn = 1; turn <= 3; turn += 2) {
                int t = s + turn & 3;
                ThinkingArms x = new ThinkingArms();
                x.arm(3, 3, 3, s + 4 * t);
                Check.due("bend " + s + " " + t, x.flip(0, 1), 27 + STEP[t]);
                Check.due("piece 0", x.piece(0, 0, 0), 27);
                Check.due("the tip", x.piece(0, 2, 0), 27 + STEP[s] + STEP[t]);
                Check.due("its form", x.form(0), t + 4 * s);
                Check.due("back", x.flip(0, 1), 27 + STEP[s]);
            }
        }
    }

    private static void flipsOnlyIfByACorner() {
        for (int s = 0; s < 4; s++) {
            ThinkingArms x = new ThinkingArms();
            x.arm(3, 3, 4, s + 4 * s + 16 * s);
            Check.due("straight " + s, x.flip(0, 1), NOT);
            Check.due("straight " + s, x.flip(0, 2), NOT);
            Check.due("it has not moved", x.piece(0, 1, 0), 27 + STEP[s]);
        }
    }

    private static void flipsAtTheSeasCorners() {
        ThinkingArms x = new ThinkingArms();
        x.arm(0, 0, 3, 0 + 4 * 1);
        Check.due("in the first corner", x.flip(0, 1), 8);
        x.arm(7, 7, 3, 2 + 4 * 3);
        Check.due("in the last corner", x.flip(1, 1), 55);
        ThinkingArms y = new ThinkingArms();
        y.arm(1, 0, 3, 1 + 4 * 2);
        Check.due("to the first cell", y.flip(0, 1), 0);
        y.arm(6, 7, 3, 3 + 4 * 0);
        Check.due("to the last cell", y.flip(1, 1), 63);
    }

    /** "if that is in THE SEA, no WALL, without a PIECE" */
    private static void flipsToNoWallNoPiece() {
        ThinkingArms x = new ThinkingArms();
        x.arm(3, 3, 3, 0 + 4 * 1);
        x.wall(3, 4, true);
        Check.due("a wall", x.flip(0, 1), NOT);
        x.wall(3, 4, false);
        x.thing(3, 4, 0);
        Check.due("a thing does not hinder", x.flip(0, 1), 35);
        Check.due("back", x.flip(0, 1), 28);
        x.arm(2, 4, 2, 0);
        Check.due("another's tip", x.flip(0, 1), NOT);
        x.flip(1, 1);
        Check.due("it has turned away", x.flip(0, 1), 35);
        ThinkingArms y = new ThinkingArms();
        y.arm(3, 3, 4, 0 + 4 * 1 + 16 * 2);
        Check.due("its own tip", y.flip(0, 1), NOT);
        Check.due("its own piece 0", y.flip(0, 2), NOT);
        y.flip(0, 3);
        Check.due("its own tip has turned away", y.piece(0, 3, 0), 37);
        Check.due("now it can", y.flip(0, 1), 35);
    }

    /** "to the first SIDE behind the one at which it is now (seen from the PIECE ahead of it; 0 behind 3)" */
    private static void turnsToTheFirstSideBehind() {
        ThinkingArms x = new ThinkingArms();
        x.arm(3, 3, 2, 0);
        for (int t = 1; t <= 9; t++) {
            Check.due("turn " + t, x.flip(0, 1), 27 + STEP[t & 3]);
            Check.due("its form", x.form(0), t & 3);
        }
        ThinkingArms y = new ThinkingArms();
        y.arm(2, 3, 3, 0 + 4 * 3);
        Check.due("from north to east, about piece 1", y.flip(0, 2), 28);
        Check.due("from east to south", y.flip(0, 2), 35);
        Check.due("from south past piece 0 to north", y.flip(0, 2), 19);
    }

    /** "that leads to a CELL in THE SEA, no WALL, without a PIECE" */
    private static void turnsPastWhatIsInTheWay() {
        for (int from = 0; from < 4; from++) {
            for (int shut = 1; shut <= 3; shut++) {
                ThinkingArms x = new ThinkingArms();
                x.arm(3, 3, 2, from);
                for (int k = 1; k <= shut; k++) {
                    int cell = 27 + STEP[from + k & 3];
                    x.wall(cell % 8, cell / 8, true);
                }
                Check.due("from " + from + " past " + shut, x.flip(0, 1), shut == 3 ? NOT : 27 + STEP[from + shut + 1 & 3]);
                ThinkingArms y = new ThinkingArms();
                y.arm(3, 3, 2, from);
                for (int k = 1; k <= Math.min(shut, 2); k++) {
                    int cell = 27 + STEP[from + k & 3];
                    y.arm(cell % 8, cell / 8, 2, from + k & 3);
                }
                Check.due("from " + from + " past arms", y.flip(0, 1), 27 + STEP[from + Math.min(shut, 2) + 1 & 3]);
            }
        }
        ThinkingArms z = new ThinkingArms();
        z.arm(3, 3, 2, 0);
        z.thing(3, 4, 0);
        Check.due("a thing is not in the way", z.flip(0, 1), 35);
    }

    /** "(not to where it is)" */
    private static void turnsNotToWhereItIs() {
        ThinkingArms x = new ThinkingArms();
        x.arm(3, 3, 2, 3);
        x.wall(4, 3, true);
        x.wall(3, 4, true);
        x.wall(2, 3, true);
        Check.due("nowhere else", x.flip(0, 1), NOT);
        Check.due("it has not moved", x.piece(0, 1, 0), 19);
        x.wall(2, 3, false);
        Check.due("the last side of all", x.flip(0, 1), 26);
    }

    private static void turnsWithinTheSea() {
        int[][] corners = {{0, 0, 0, 8, 1}, {7, 0, 1, 6, 15}, {7, 7, 2, 55, 62}, {0, 7, 3, 57, 48}};
        for (int[] c : corners) {
            ThinkingArms x = new ThinkingArms();
            x.arm(c[0], c[1], 2, c[2]);
            Check.due("on", x.flip(0, 1), c[3]);
            Check.due("past the sea's ends", x.flip(0, 1), c[4]);
            x.wall(c[3] % 8, c[3] / 8, true);
            Check.due("shut in", x.flip(0, 1), NOT);
        }
        ThinkingArms east = new ThinkingArms();
        east.arm(7, 3, 2, 3);
        Check.due("from north past the east end to south", east.flip(0, 1), 39);
        ThinkingArms west = new ThinkingArms();
        west.arm(0, 3, 2, 1);
        Check.due("from south past the west end to north", west.flip(0, 1), 16);
        ThinkingArms south = new ThinkingArms();
        south.arm(3, 7, 2, 0);
        Check.due("from east past the south end to west", south.flip(0, 1), 58);
        ThinkingArms north = new ThinkingArms();
        north.arm(3, 0, 2, 2);
        Check.due("from west past the north end to east", north.flip(0, 1), 4);
    }

    private static void formOfEveryArm() {
        int tried = 0;
        for (int form = 0; form < 256; form++) {
            ThinkingArms x = new ThinkingArms();
            if (x.arm(3, 3, 5, form) == 0) {
                Check.due("form " + form, x.form(0), form);
                tried++;
            }
        }
        // 100 walks of four steps do not cross themselves; due west and due north leave the sea
        Check.due("forms that can lie so", tried, 98);
    }

    /** "NOT: it is CUT" */
    private static void formOfACutArm() {
        for (int k = 1; k < 7; k++) {
            ThinkingArms x = new ThinkingArms();
            x.arm(0, 0, 7, 0);
            x.arm(0, 2, 2, 0);
            x.cut(0, k);
            Check.due("cut at " + k, x.form(0), NOT);
            Check.due("the other", x.form(1), 0);
        }
    }

    /** "NOT: it would be one, and a PIECE, a LYING THING is there": where they were, and are no more, it can be. */
    private static void wallWhereAPieceWas() {
        ThinkingArms x = new ThinkingArms();
        x.arm(3, 3, 2, 0);
        x.thing(3, 2, 0);
        Check.due("the tip is there", x.wall(4, 3, true), NOT);
        x.flip(0, 1);
        Check.due("it has gone", x.wall(4, 3, true), 0);
        Check.due("it is here", x.wall(3, 4, true), NOT);
        Check.due("a thing", x.wall(3, 2, true), NOT);
        Check.rules(x, 0, "!h:ffg;*:fd");
        x.ticks(1);
        Check.due("the tip", x.piece(0, 1, 0), 19);
        Check.due("it is held", x.told(0, 0), 1);
        x.ticks(1);
        Check.due("carried past the wall", x.told(0, 1), 35);
        Check.due("where it lay", x.wall(3, 2, true), 0);
        Check.due("where it lies", x.wall(3, 4, true), NOT);
    }
}

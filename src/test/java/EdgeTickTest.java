/** The sentences on TICKS, SKIN, HEADS and CUTS that name an edge, each with a test of its own; promises 12 to 17. */
public final class EdgeTickTest {
    private static final int BAD = -1, NOT = -2, NONE = -4;

    public static void main(String[] args) {
        headsWordIs0To3();
        piece0SaysItInEachTick();
        zeroIfItSaidNothing();
        wordsGoOnePieceATick();
        findsByWhatWasAhead();
        armByArmPieceByPiece();
        actsInOrder();
        flipIfItCan();
        grabIfItHoldsNone();
        grabTheFirst();
        skinIs0To3();
        passIfThatHoldsNone();
        piece0EatsAny();
        dropIfNoneIsLying();
        theLastWordOfATick();
        oneTo60Ticks();
        howManyAreEatenThen();
        cutOnceAtAPiece();
        allBehindAreCut();
        theOneAheadIsATip();
        theFirstCutOneNeverMoves();
        theFirstCutOneDoesNothing();
        toItNothingIsPassed();
        theOneAheadTurns();
        thoseBehindGoOn();
        counts();
        Check.end();
    }

    private static ThinkingArms with(int x, int y, int pieces, String rules) {
        ThinkingArms a = new ThinkingArms();
        a.arm(x, y, pieces, 0);
        Check.rules(a, 0, rules);
        return a;
    }

    /** "the HEAD's WORD (0 .. 3; 0 at first)" */
    private static void headsWordIs0To3() {
        ThinkingArms x = with(0, 0, 2, "*:f");
        x.arm(0, 2, 2, 0);
        x.arm(0, 4, 2, 0);
        for (int a = 0; a < 3; a++) {
            int was = 0;
            int[] words = {0, 3, 1, 2, 0};
            for (int w : words) {
                Check.due("word " + w + " to " + a, x.head(a, w), was);
                was = w;
            }
            Check.due("4 to " + a, x.head(a, 4), BAD);
            Check.due("-1 to " + a, x.head(a, -1), BAD);
            Check.due("as it was", x.head(a, 0), 0);
        }
    }

    /** "PIECE 0 says the HEAD's WORD .. in each TICK" */
    private static void piece0SaysItInEachTick() {
        for (int word = 0; word <= 3; word++) {
            ThinkingArms x = new ThinkingArms();
            x.arm(0, 0, 2, 0);
            x.arm(0, 2, 2, 0);
            x.cut(1, 1);
            x.head(0, word);
            x.head(1, word);
            Check.due("no tick yet", x.piece(0, 0, 3), 0);
            for (int t = 0; t < 3; t++) {
                x.ticks(1);
                Check.due("without rules, too", x.piece(0, 0, 3), word);
                Check.due("cut at piece 1, too", x.piece(1, 0, 3), word);
            }
            x.head(0, 3 - word);
            Check.due("said in the latest tick", x.piece(0, 0, 3), word);
            x.ticks(1);
            Check.due("the new one", x.piece(0, 0, 3), 3 - word);
        }
    }

    /** "(0, if it said nothing, at first)" */
    private static void zeroIfItSaidNothing() {
        ThinkingArms x = with(0, 0, 4, "w0:s1;*:s2");
        x.head(0, 3);
        x.ticks(1);
        for (int k = 1; k < 4; k++) {
            Check.due("at first, piece " + k, x.piece(0, k, 1), 1);
        }
        x.ticks(1);
        Check.due("piece 1 hears the head", x.piece(0, 1, 1), 2);
        Check.due("piece 2 hears nothing", x.piece(0, 2, 1), 1);
        Check.rules(x, 0, "*:o2");
        x.ticks(1);
        Check.due("said", x.piece(0, 2, 3), 2);
        Check.rules(x, 0, "h:o1");
        Check.due("none is found", x.finds(0, 2), NONE);
        x.ticks(1);
        Check.due("nothing said: 0", x.piece(0, 2, 3), 0);
    }

    /** "words that take a tick from piece to piece": seven pieces, six ticks behind the head's */
    private static void wordsGoOnePieceATick() {
        ThinkingArms x = with(0, 0, 7, "w1:o1;w2:o2;w3:o3");
        int[] said = {3, 1, 2, 0, 0, 0, 0, 0, 0, 0};
        for (int t = 0; t < said.length; t++) {
            x.head(0, said[t]);
            x.ticks(1);
            for (int k = 0; k < 7; k++) {
                Check.due("tick " + t + " piece " + k, x.piece(0, k, 3), t >= k ? said[t - k] : 0);
            }
        }
    }

    /** "first all PIECES .. find their CLAUSE .. by what was ahead of it. Then .. by what is then" */
    private static void findsByWhatWasAhead() {
        ThinkingArms x = new ThinkingArms();
        x.arm(0, 0, 3, 0);
        x.arm(0, 2, 3, 0);
        x.thing(2, 1, 0);
        Check.rules(x, 0, "t0:gs1;*:s2");
        Check.rules(x, 1, "t0:gs1;*:s2");
        x.ticks(1);
        Check.due("arm 0 is first", x.told(0, 3), 2);
        Check.due("arm 1 felt it, too", x.piece(1, 2, 1), 1);
        Check.due("and has none", x.piece(1, 2, 2), NONE);
        ThinkingArms y = with(0, 0, 3, "h:s3;x:gp;*:s1");
        y.thing(2, 1, 0);
        y.ticks(1);
        Check.due("it is given one", y.piece(0, 1, 2), 0);
        Check.due("but held none ahead of the tick", y.piece(0, 1, 1), 1);
        ThinkingArms z = with(0, 0, 4, "m0&!x:s1;x:d;*:s2");
        z.ticks(1);
        Check.due("memory as it was", z.piece(0, 1, 1), 1);
        z.ticks(1);
        Check.due("memory as it is", z.piece(0, 1, 1), 2);
    }

    /** "ARM by ARM, PIECE by PIECE from 1 on" */
    private static void armByArmPieceByPiece() {
        ThinkingArms x = with(0, 0, 3, "x:p;*:p");
        Check.rules(x, 0, "*:g");
        x.thing(1, 1, 0);
        x.thing(2, 1, 1);
        x.ticks(1);
        Check.due("both hold", x.count(3), 2);
        Check.rules(x, 0, "*:p");
        Check.due("piece 1 passes on ahead of piece 2", x.ticks(1), 1);
        Check.due("so piece 2 can, too", x.piece(0, 1, 2), 1);
        ThinkingArms y = with(0, 0, 7, "x:gp;*:p");
        y.thing(7, 0, 0);
        for (int t = 1; t <= 5; t++) {
            Check.due("one piece a tick", y.ticks(1), 0);
            Check.due("held by", y.told(0, 3), 6 - t);
        }
        Check.due("eaten in the sixth", y.ticks(1), 1);
        ThinkingArms z = new ThinkingArms();
        for (int a = 0; a < 3; a++) {
            z.arm(0, 2 * a, 2, 0);
            Check.rules(z, a, "*:f");
        }
        z.ticks(1);
        int[] cells = {8, 24, 40};
        for (int a = 0; a < 3; a++) {
            Check.due("arm " + a + " turns south", z.piece(a, 1, 0), cells[a]);
        }
        z.ticks(1);
        int[] then = {1, 8, 24};
        for (int a = 0; a < 3; a++) {
            Check.due("arm " + a + " goes where the one ahead of it has just left", z.piece(a, 1, 0), then[a]);
        }
    }

    /** "each does its ACTS in order" */
    private static void actsInOrder() {
        ThinkingArms x = with(3, 3, 2, "*:gfgd");
        x.thing(5, 3, 0);
        x.thing(2, 4, 1);
        x.ticks(1);
        Check.due("grabbed ahead of the turn", x.told(0, 1), 35);
        Check.due("dropped behind it", x.told(0, 0), 0);
        Check.due("one at most", x.told(1, 1), 34);
        ThinkingArms y = with(3, 3, 2, "*:fgfd");
        y.thing(5, 3, 0);
        y.thing(2, 4, 1);
        y.ticks(1);
        Check.due("turned ahead of the grab", y.told(0, 1), 29);
        Check.due("carried to the west", y.told(1, 1), 26);
        ThinkingArms z = with(3, 3, 2, "*:gpgp");
        z.thing(4, 3, 0);
        z.thing(5, 3, 1);
        z.thing(4, 4, 2);
        Check.due("two in a tick", z.ticks(1), 2);
        Check.due("the third", z.ticks(1), 3);
        ThinkingArms w = with(3, 3, 2, "*:pgdg");
        w.thing(4, 3, 0);
        w.ticks(1);
        Check.due("dropped and grabbed again", w.told(0, 0), 1);
    }

    /** "FLIP, TURN, if it can" */
    private static void flipIfItCan() {
        ThinkingArms x = with(3, 3, 3, "!x:fs1");
        x.ticks(1);
        Check.due("a straight one stays", x.piece(0, 1, 0), 28);
        Check.due("and goes on with its acts", x.piece(0, 1, 1), 1);
        ThinkingArms y = with(0, 0, 2, "*:fs2");
        y.wall(0, 1, true);
        y.ticks(1);
        Check.due("a tip that is shut in stays", y.piece(0, 1, 0), 1);
        Check.due("and goes on with its acts", y.piece(0, 1, 1), 2);
        ThinkingArms z = with(3, 3, 2, "*:ffff");
        z.ticks(1);
        Check.due("once round", z.piece(0, 1, 0), 28);
        Check.rules(z, 0, "*:fff");
        z.ticks(1);
        Check.due("0 is behind 3", z.piece(0, 1, 0), 19);
        Check.rules(z, 0, "*:f");
        z.ticks(1);
        Check.due("0 is behind 3", z.piece(0, 1, 0), 28);
    }

    /** "GRAB, if it holds none" */
    private static void grabIfItHoldsNone() {
        ThinkingArms x = with(3, 3, 2, "*:g");
        x.ticks(1);
        Check.due("nothing about", x.piece(0, 1, 2), NONE);
        x.thing(5, 3, 0);
        x.ticks(1);
        Check.due("grabbed", x.piece(0, 1, 2), 0);
        x.thing(4, 3, 1);
        x.ticks(1);
        Check.due("it holds one", x.piece(0, 1, 2), 0);
        Check.due("the other lies", x.told(1, 0), 0);
    }

    /** "of THINGS LYING at its CELL, then to SIDES 0 .. 3 of it, the first of which the TASTE is not SKIN" */
    private static void grabTheFirst() {
        int[][] places = {{3, 3}, {4, 3}, {3, 4}, {2, 3}, {3, 2}};
        for (int skin = 0; skin < 32; skin++) {
            ThinkingArms x = new ThinkingArms();
            x.arm(3, 2, 2, 1);
            Check.rules(x, 0, "*:g");
            int want = NONE;
            for (int k = 4; k >= 0; k--) {
                boolean isSkin = (skin >> k & 1) != 0;
                x.thing(places[k][0], places[k][1], isSkin ? 3 : 1);
                want = isSkin ? want : 4 - k;
            }
            x.ticks(1);
            Check.due("skin at " + skin, x.piece(0, 1, 2), want);
            Check.due("held or none", x.count(3), want == NONE ? 0 : 1);
        }
    }

    /** "SKIN (0 .. 3; 3 at first)" */
    private static void skinIs0To3() {
        ThinkingArms x = new ThinkingArms();
        int was = 3;
        int[] tastes = {0, 3, 1, 2, 2};
        for (int t : tastes) {
            Check.due("skin " + t, x.skin(t), was);
            was = t;
        }
        Check.due("4", x.skin(4), BAD);
        Check.due("-1", x.skin(-1), BAD);
        Check.due("as it was", x.skin(2), 2);
        for (int skin = -1; skin <= 3; skin++) {
            for (int taste = 0; taste <= 3; taste++) {
                ThinkingArms y = with(3, 3, 2, "*:g");
                y.thing(4, 3, taste);
                if (skin >= 0) {
                    y.skin(skin);
                }
                y.ticks(1);
                int isSkin = skin >= 0 ? skin : 3;
                Check.due("taste " + taste + " of skin " + isSkin, y.piece(0, 1, 2), taste == isSkin ? NONE : 0);
            }
        }
        ThinkingArms z = with(3, 3, 2, "*:g");
        z.thing(4, 3, 1);
        z.ticks(1);
        z.skin(1);
        Check.rules(z, 0, "*:p");
        Check.due("what is held is passed on, skin or not", z.ticks(1), 1);
    }

    /** "PASS: what it holds to the PIECE ahead of it, if that holds none" */
    private static void passIfThatHoldsNone() {
        ThinkingArms x = with(3, 3, 3, "*:p");
        Check.due("nothing to pass", x.ticks(1), 0);
        Check.rules(x, 0, "*:g");
        x.thing(4, 4, 0);
        x.thing(5, 4, 1);
        x.ticks(1);
        Check.rules(x, 0, "x:p");
        x.ticks(3);
        Check.due("that one holds one", x.piece(0, 2, 2), 1);
        Check.due("still", x.piece(0, 1, 2), 0);
        Check.rules(x, 0, "!x:d");
        x.ticks(1);
        Check.due("it holds none now", x.piece(0, 1, 2), NONE);
        Check.rules(x, 0, "x:p");
        x.ticks(1);
        Check.due("so it is passed", x.piece(0, 1, 2), 1);
        Check.due("and held no more", x.piece(0, 2, 2), NONE);
        Check.due("by", x.told(1, 3), 1);
    }

    /** "(PIECE 0: it is EATEN)": as many as come */
    private static void piece0EatsAny() {
        ThinkingArms x = with(3, 3, 2, "*:gp");
        for (int t = 0; t < 8; t++) {
            x.thing(4, 3, t % 3);
            Check.due("one more", x.ticks(1), t + 1);
            Check.due("piece 0 holds none", x.piece(0, 0, 2), NONE);
            Check.due("nor piece 1", x.piece(0, 1, 2), NONE);
        }
        Check.due("all are eaten", x.count(4), 8);
        Check.due("none lies", x.count(2), 0);
        Check.due("none is held", x.count(3), 0);
        Check.due("none more", x.ticks(60), 8);
    }

    /** "DROP: what it holds is LYING at its CELL, if none is LYING there" */
    private static void dropIfNoneIsLying() {
        ThinkingArms x = with(3, 3, 2, "*:d");
        Check.due("nothing to drop", x.ticks(1), 0);
        Check.rules(x, 0, "*:g");
        x.thing(5, 3, 0);
        x.ticks(1);
        x.thing(4, 3, 3);
        Check.rules(x, 0, "*:d");
        x.ticks(2);
        Check.due("one is lying there, skin or not", x.told(0, 0), 1);
        Check.due("held still", x.piece(0, 1, 2), 0);
        Check.rules(x, 0, "*:fd");
        x.ticks(1);
        Check.due("none is lying here", x.told(0, 0), 0);
        Check.due("here", x.told(0, 1), 35);
        Check.due("held no more", x.piece(0, 1, 2), NONE);
        Check.due("nobody's", x.told(0, 3), NONE);
        Check.due("two lie", x.count(2), 2);
        for (int taste = 0; taste <= 3; taste++) {
            ThinkingArms y = with(3, 3, 2, "*:g");
            y.thing(5, 3, 0);
            y.ticks(1);
            y.thing(4, 3, taste);
            Check.rules(y, 0, "*:d");
            y.ticks(1);
            Check.due("one of taste " + taste + " is lying there", y.told(0, 0), 1);
        }
    }

    /** "(the last o; without: 0)" */
    private static void theLastWordOfATick() {
        ThinkingArms x = with(3, 3, 2, "*:o1o2o3o0");
        x.ticks(1);
        Check.due("the last o is 0", x.piece(0, 1, 3), 0);
        Check.rules(x, 0, "*:o0o3");
        x.ticks(1);
        Check.due("the last o is 3", x.piece(0, 1, 3), 3);
        Check.rules(x, 0, "*:o2ffs1");
        x.ticks(1);
        Check.due("the only o", x.piece(0, 1, 3), 2);
        Check.rules(x, 0, "*:f");
        x.ticks(1);
        Check.due("without: 0", x.piece(0, 1, 3), 0);
        Check.due("memory stays", x.piece(0, 1, 1), 1);
    }

    /** "n TICKS (1 .. 60)" */
    private static void oneTo60Ticks() {
        ThinkingArms x = with(3, 3, 2, "*:f");
        Check.due("0", x.ticks(0), BAD);
        Check.due("61", x.ticks(61), BAD);
        Check.due("none done", x.count(6), 0);
        Check.due("1", x.ticks(1), 0);
        Check.due("one done", x.count(6), 1);
        Check.due("one turn", x.piece(0, 1, 0), 35);
        Check.due("60", x.ticks(60), 0);
        Check.due("all done", x.count(6), 61);
        Check.due("sixty turns, fifteen times round", x.piece(0, 1, 0), 35);
        Check.due("59", x.ticks(59), 0);
        Check.due("59 turns", x.piece(0, 1, 0), 28);
        Check.due("2", x.ticks(2), 0);
        Check.due("two turns", x.piece(0, 1, 0), 26);
    }

    /** "how many THINGS are EATEN then": in all, by all arms */
    private static void howManyAreEatenThen() {
        ThinkingArms x = new ThinkingArms();
        x.arm(0, 0, 2, 0);
        x.arm(0, 7, 2, 0);
        x.thing(1, 0, 0);
        x.thing(1, 7, 0);
        x.thing(4, 4, 0);
        Check.rules(x, 0, "*:gp");
        Check.rules(x, 1, "*:gp");
        Check.due("by both arms", x.ticks(1), 2);
        Check.due("then", x.ticks(1), 2);
        Check.due("as count tells", x.count(4), 2);
    }

    /** "CUT an ARM can be once, at a PIECE (1 or more)" */
    private static void cutOnceAtAPiece() {
        for (int n = 2; n <= 7; n++) {
            for (int k = -1; k <= n; k++) {
                ThinkingArms x = with(0, 0, n, "*:f");
                x.arm(0, 7, 2, 0);
                boolean can = k >= 1 && k < n;
                Check.due("cut " + n + " at " + k, x.cut(0, k), can ? n - k : BAD);
                for (int again = 1; again < n && can; again++) {
                    Check.due("once", x.cut(0, again), NOT);
                }
                Check.due("another arm", x.cut(1, 1), 1);
                Check.due("once, too", x.cut(1, 1), NOT);
                Check.due("piece 0, still bad", x.cut(1, 0), BAD);
            }
        }
    }

    /** "that one and all behind it are CUT" */
    private static void allBehindAreCut() {
        for (int at = 1; at < 7; at++) {
            ThinkingArms x = with(0, 0, 7, "*:f");
            x.cut(0, at);
            for (int k = 0; k < 7; k++) {
                Check.due("cut " + k + " of one cut at " + at, x.piece(0, k, 4), k >= at ? 1 : 0);
            }
        }
    }

    /** "the one ahead of it is a TIP, too" */
    private static void theOneAheadIsATip() {
        for (int at = 1; at < 7; at++) {
            ThinkingArms x = with(0, 0, 7, "x:f");
            x.cut(0, at);
            for (int k = 0; k < 7; k++) {
                boolean tip = k == at - 1 || k == 6;
                Check.due("tip " + k + " of one cut at " + at, x.piece(0, k, 5), tip ? 1 : 0);
                if (k > 0) {
                    Check.due("it finds so", x.finds(0, k), tip ? 0 : NONE);
                }
            }
        }
    }

    /** "The first CUT one never moves from then on" */
    private static void theFirstCutOneNeverMoves() {
        for (int at = 1; at < 5; at++) {
            ThinkingArms x = new ThinkingArms();
            x.arm(2, 2, 5, 0 + 4 * 1 + 16 * 0 + 64 * 1);
            Check.rules(x, 0, "*:f");
            int where = x.piece(0, at, 0);
            x.cut(0, at);
            Check.due("by a flip", x.flip(0, at), BAD);
            for (int t = 0; t < 12; t++) {
                x.ticks(1);
                Check.due("by ticks, cut at " + at, x.piece(0, at, 0), where);
            }
            Check.due("piece 0", x.piece(0, 0, 0), 18);
        }
    }

    /** "does none of its ACTS, says nothing" */
    private static void theFirstCutOneDoesNothing() {
        ThinkingArms x = with(2, 3, 4, "*:gs1o1p");
        x.thing(4, 4, 0);
        x.cut(0, 2);
        x.ticks(3);
        Check.due("grabs nothing", x.told(0, 0), 0);
        Check.due("remembers nothing", x.piece(0, 2, 1), 0);
        Check.due("says nothing", x.piece(0, 2, 3), 0);
        Check.due("the one ahead does", x.piece(0, 1, 1), 1);
        Check.due("the one behind does", x.piece(0, 3, 3), 1);
        ThinkingArms y = with(2, 3, 4, "*:g");
        y.thing(4, 4, 0);
        y.ticks(1);
        Check.due("held", y.piece(0, 2, 2), 0);
        y.cut(0, 2);
        Check.due("held behind the cut", y.piece(0, 2, 2), 0);
        Check.rules(y, 0, "*:pd");
        y.ticks(5);
        Check.due("neither passed nor dropped", y.told(0, 3), 2);
        ThinkingArms z = with(2, 3, 4, "*:o2s3");
        z.ticks(1);
        z.cut(0, 3);
        Check.due("what it said in the latest tick", z.piece(0, 3, 3), 2);
        Check.due("its memory stays", z.piece(0, 3, 1), 3);
        z.ticks(1);
        Check.due("says nothing then", z.piece(0, 3, 3), 0);
        Check.due("its memory stays", z.piece(0, 3, 1), 3);
    }

    /** "to it nothing is PASSED on" */
    private static void toItNothingIsPassed() {
        for (int at = 1; at < 4; at++) {
            ThinkingArms x = with(2, 3, 5, "x&!h:g;h:p");
            x.thing(7, 3, 0);
            x.cut(0, at);
            x.ticks(1);
            Check.due("the last one has it", x.told(0, 3), 4);
            Check.due("never eaten", x.ticks(20), 0);
            Check.due("it stays behind the first cut one", x.told(0, 3), at + 1);
            Check.due("which holds none", x.piece(0, at, 2), NONE);
        }
        ThinkingArms y = with(2, 3, 5, "x&!h:g;h:p");
        y.thing(7, 3, 0);
        y.ticks(2);
        Check.due("ahead of the cut", y.told(0, 3), 3);
        y.cut(0, 4);
        Check.due("what is ahead of it is eaten", y.ticks(3), 1);
    }

    /** "the one ahead of it is a TIP, too (if it is PIECE 0: but never moves)" */
    private static void theOneAheadTurns() {
        ThinkingArms x = new ThinkingArms();
        x.arm(2, 2, 4, 0);
        Check.due("straight: it can't flip", x.flip(0, 1), NOT);
        x.cut(0, 2);
        Check.due("it turns", x.flip(0, 1), 26);
        Check.due("and on", x.flip(0, 1), 17);
        Check.rules(x, 0, "x:f");
        x.ticks(1);
        Check.due("by a tick, too", x.piece(0, 1, 0), 10);
        x.ticks(1);
        Check.due("back beside the cut one", x.piece(0, 1, 0), 19);
        ThinkingArms y = new ThinkingArms();
        y.arm(2, 2, 4, 0);
        y.cut(0, 1);
        Check.rules(y, 0, "*:f");
        y.ticks(5);
        Check.due("piece 0 never moves", y.piece(0, 0, 0), 18);
        Check.due("a tip all the same", y.piece(0, 0, 5), 1);
        Check.due("nor the first cut one", y.piece(0, 1, 0), 19);
    }

    private static void thoseBehindGoOn() {
        ThinkingArms x = new ThinkingArms();
        x.arm(1, 3, 5, 0 + 4 * 0 + 16 * 0 + 64 * 1);
        Check.rules(x, 0, "x:s1o1;*:fs2o2");
        x.cut(0, 2);
        x.ticks(1);
        Check.due("a cut one flips", x.piece(0, 3, 0), 35);
        Check.due("remembers", x.piece(0, 3, 1), 2);
        Check.due("says", x.piece(0, 3, 3), 2);
        Check.due("the last one is a tip", x.piece(0, 4, 1), 1);
        Check.rules(x, 0, "w2:s3;w0:s0");
        x.ticks(1);
        Check.due("the last one heard it", x.piece(0, 4, 1), 3);
        Check.due("the one behind the first cut one hears nothing", x.piece(0, 3, 1), 0);
        ThinkingArms y = new ThinkingArms();
        y.arm(1, 3, 4, 0);
        y.thing(5, 3, 0);
        Check.rules(y, 0, "x&!h:g;h:d");
        y.cut(0, 1);
        y.ticks(2);
        Check.due("let go by an arm that is cut", y.told(0, 1), 28);
        Check.due("it lies", y.told(0, 0), 0);
    }

    /** "How many: 0 ARMS, .. 6 TICKS done." */
    private static void counts() {
        ThinkingArms x = new ThinkingArms();
        Check.due("-1", x.count(-1), BAD);
        Check.due("7", x.count(7), BAD);
        x.arm(0, 0, 2, 0);
        x.arm(0, 7, 2, 0);
        x.thing(1, 0, 0);
        x.thing(1, 7, 0);
        x.thing(4, 4, 0);
        x.thing(4, 5, 0);
        x.thing(4, 6, 0);
        for (int k = 0; k < 7; k++) {
            x.wall(7, k, true);
        }
        Check.rules(x, 0, "*:gp");
        Check.rules(x, 1, "*:g");
        x.ticks(60);
        x.ticks(6);
        int[] want = {2, 5, 3, 1, 1, 7, 66};
        for (int what = 0; what <= 6; what++) {
            Check.due("count " + what, x.count(what), want[what]);
        }
    }
}

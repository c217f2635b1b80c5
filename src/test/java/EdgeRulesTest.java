/** The sentences on TEXTS and THE TAPE that name an edge, each with a test of its own; promises 10, 11 and 15. */
public final class EdgeRulesTest {
    private static final int BAD = -1, FULL = -3, NONE = -4;

    public static void main(String[] args) {
        oneToEightBytes();
        bytesAre32To126();
        theHighestFirst();
        theTapeHas100();
        oneToSixClauses();
        oneToFourActs();
        casesAndClaims();
        onePerhapsNot();
        digitsAre0To3();
        fourOpenAtOnce();
        bracketsInPairs();
        theFirstByteThatCantStandThere();
        theEndIsHowManyBytesThereAre();
        blanksCountForNothing();
        everySignAtEveryPlace();
        noRulesAtFirst();
        theTapeIsEmptyThen();
        aFaultChangesNoRules();
        theWordItHears();
        feelsItsCellAndSides();
        feelsNotRoundTheSea();
        feelsOnlyWhatLies();
        memoryHoldsTip();
        theFirstClauseWhoseTestHolds();
        Check.end();
    }

    private static ThinkingArms withArm() {
        ThinkingArms x = new ThinkingArms();
        x.arm(3, 3, 3, 0);
        return x;
    }

    private static void text(String text, int want) {
        ThinkingArms x = withArm();
        Check.due("'" + text + "'", Check.rules(x, 0, text), want);
        Check.due("the tape is empty behind '" + text + "'", x.type('a', 1), 1);
    }

    /** Whether a test holds for piece 1 of an arm on 27, 28, 29 with nothing about. */
    private static void holds(String test, boolean want) {
        ThinkingArms x = withArm();
        Check.due("'" + test + "' can be read", Check.rules(x, 0, test + ":f"), 1);
        Check.due("'" + test + "'", x.finds(0, 1), want ? 0 : NONE);
    }

    private static String times(String part, int n) {
        StringBuilder text = new StringBuilder();
        for (int k = 0; k < n; k++) {
            text.append(part);
        }
        return text.toString();
    }

    /** "The n lowest bytes (1 .. 8) of w" */
    private static void oneToEightBytes() {
        ThinkingArms x = new ThinkingArms();
        int has = 0;
        for (int n = 1; n <= 8; n++) {
            has += n;
            Check.due("n " + n, x.type(0x6161616161616161L, n), has);
        }
        Check.due("n 0", x.type(0x6161616161616161L, 0), BAD);
        Check.due("n 9", x.type(0x6161616161616161L, 9), BAD);
        Check.due("it has as many", x.type('a', 1), has + 1);
        for (int n = 1; n <= 7; n++) {
            ThinkingArms y = new ThinkingArms();
            Check.due("bytes above the lowest " + n + " may be any", y.type(0x6161616161616161L | -1L << 8 * n, n), n);
            Check.due("or 0", y.type(0x6161616161616161L & ~(-1L << 8 * n), n), 2 * n);
            Check.due("but one more is taken", y.type(0x6161616161616161L & ~(-1L << 8 * n), n + 1), BAD);
        }
    }

    /** "BAD: .. a byte not 32 .. 126" */
    private static void bytesAre32To126() {
        ThinkingArms x = new ThinkingArms();
        int has = 0;
        for (int b = 0; b < 256; b++) {
            boolean can = b >= 32 && b <= 126;
            Check.due("byte " + b, x.type(b, 1), can ? ++has : BAD);
        }
        Check.due("95 came", has, 95);
    }

    /** "of these the highest first" */
    private static void theHighestFirst() {
        ThinkingArms x = withArm();
        Check.due("*:gf", x.type(0x2A3A6766L, 4), 4);
        Check.due("read", x.rules(0), 1);
        Check.due("fg:*", x.type(0x66673A2AL, 4), 4);
        Check.due("not read", x.rules(0), -20);
        x.type(0x683A663B2A3AL, 6);
        x.type('g', 1);
        Check.due("behind what is there", x.rules(0), 2);
        Check.due("all of it", x.finds(0, 1), 1);
        Check.due("eight bytes", x.type(0x682A2A2A2A2A2A3AL, 8), 8);
        Check.due("the first is the highest", x.rules(0), -21);
    }

    /** "FULL: 100" */
    private static void theTapeHas100() {
        for (int n = 1; n <= 8; n++) {
            ThinkingArms x = withArm();
            for (int k = 0; k < 12; k++) {
                x.type(0x2020202020202020L, 8);
            }
            int room = 4;
            Check.due(n + " where 4 are free", x.type(0x2020202020202020L, n), n <= room ? 96 + n : FULL);
            int left = n <= room ? room - n : room;
            Check.due("one more than is free", x.type(0x2020202020202020L, left + 1), FULL);
            if (left > 0) {
                Check.due("as many as are free", x.type(0x2020202020202020L, left), 100);
            }
            Check.due("full", x.type(' ', 1), FULL);
            Check.due("100 blanks", x.rules(0), -120);
            Check.due("empty then", x.type(' ', 1), 1);
        }
        text(times(" ", 97) + "*:f", 1);
        text("*:f" + times(" ", 97), 1);
        text(times(" ", 98) + "*:", -120);
        text(times(" ", 99) + "f", -119);
        text("*:f;" + times(" ", 96), -120);
        text(times("h|", 49) + "*:", -120);
        text(times("h|", 48) + "*:f", 1);
        text(times("!h&", 32) + "x:ff", 1);
        text(times("!h&", 33) + "x", -120);
    }

    /** "1 to 6 CLAUSES with ; between"; "a seventh CLAUSE's ; .. can't" */
    private static void oneToSixClauses() {
        text("", -20);
        text(";", -20);
        for (int n = 1; n <= 6; n++) {
            text(times("*:f;", n - 1) + "*:f", n);
            text(times("*:f;", n), -20 - (n < 6 ? 4 * n : 23));
            text(times("*:f;", n) + ";", -20 - (n < 6 ? 4 * n : 23));
        }
        text(times("*:f;", 6) + "*:f", -43);
        text(times("*:f;", 6) + "z", -43);
        text(times("*:f;", 5) + "*:f  ;", -45);
        text(";*:f", -20);
        ThinkingArms x = withArm();
        Check.rules(x, 0, "h:f;h:f;h:f;h:f;h:f;*:f");
        Check.due("the sixth is found", x.finds(0, 1), 5);
    }

    /** "1 to 4 ACTS"; "a fifth ACT can't" */
    private static void oneToFourActs() {
        text("*:", -22);
        text("*:;*:f", -22);
        String[] acts = {"f", "g", "p", "d", "s0", "o3"};
        for (String act : acts) {
            for (int n = 1; n <= 4; n++) {
                text("*:" + times(act, n), 1);
                text("*:" + times(act, n) + ";x:f", 2);
            }
            for (String fifth : acts) {
                text("*:" + times(act, 4) + fifth, -20 - 2 - 4 * act.length());
                text("*:" + times(act, 4) + " " + fifth, -20 - 3 - 4 * act.length());
            }
        }
        ThinkingArms x = withArm();
        Check.rules(x, 0, "*:s1s2s3o2");
        x.ticks(1);
        Check.due("the third act is done", x.piece(0, 1, 1), 3);
        Check.due("the fourth act is done", x.piece(0, 1, 3), 2);
    }

    /** "TEST: CASES with | between; CASE: CLAIMS with & between" */
    private static void casesAndClaims() {
        text(":f", -20);
        text("|*:f", -20);
        text("&*:f", -20);
        text("*|:f", -22);
        text("*&:f", -22);
        text("*||*:f", -22);
        text("*&&*:f", -22);
        text("*|&*:f", -22);
        text("**:f", -21);
        text("hx:f", -21);
        text("(*|):f", -23);
        text("(&*):f", -21);
        // * is true, h is false: & binds ahead of |
        holds("*", true);
        holds("h", false);
        holds("h|*", true);
        holds("*|h", true);
        holds("h|h", false);
        holds("*&*", true);
        holds("*&h", false);
        holds("h&*", false);
        holds("*|h&h", true);
        holds("h&h|*", true);
        holds("h&*|*&h", false);
        holds("h&*|*&*", true);
        holds("h|h&*", false);
        holds("(*|h)&h", false);
        holds("h&(h|*)", false);
        holds("*&(h|*)", true);
        holds("h|h|h|*", true);
        holds("*&*&*&h", false);
    }

    /** "CLAIM: perhaps !, then .." */
    private static void onePerhapsNot() {
        text("!", -21);
        text("!:f", -21);
        text("!!*:f", -21);
        text("!&*:f", -21);
        text("!|*:f", -21);
        text("!):f", -21);
        text("*!:f", -21);
        text("*!*:f", -21);
        text("*:!f", -22);
        holds("!h", true);
        holds("!*", false);
        holds("!(h)", true);
        holds("!(!h)", false);
        holds("!(!(!(!(*))))", true);
        holds("!h&!h", true);
        holds("!*|!h", true);
        holds("!h&*", true);
        holds("!*&h|!h", true);
        holds("!(h|*)", false);
        holds("!(h&*)", true);
        holds("!h|*&h", true);
        holds("!*|h", false);
    }

    /** "a digit 0 .. 3", behind each letter that has one */
    private static void digitsAre0To3() {
        for (char letter : "wtm".toCharArray()) {
            for (char digit = 32; digit < 127; digit++) {
                boolean can = digit >= '0' && digit <= '3';
                if (digit != ' ') {
                    text("" + letter + digit + ":f", can ? 1 : -21);
                    text("h&!" + letter + digit + ":f", can ? 1 : -24);
                }
            }
            text("" + letter, -21);
            text("" + letter + "00:f", -22);
        }
        for (char letter : "so".toCharArray()) {
            for (char digit = 33; digit < 127; digit++) {
                boolean can = digit >= '0' && digit <= '3';
                text("*:" + letter + digit, can ? 1 : -23);
                text("*:fgp" + letter + digit, can ? 1 : -26);
            }
            text("*:" + letter, -23);
            text("*:" + letter + "00", -24);
        }
        for (char letter : "hx*".toCharArray()) {
            text(letter + "0:f", -21);
        }
        for (char letter : "fgpd".toCharArray()) {
            text("*:" + letter + "0", -23);
        }
    }

    /** "or a TEST in ( ) (4 open at once at most)" */
    private static void fourOpenAtOnce() {
        for (int n = 1; n <= 6; n++) {
            boolean can = n <= 4;
            text(times("(", n) + "*" + times(")", n) + ":f", can ? 1 : -24);
            text(times("!(", n) + "*" + times(")", n) + ":f", can ? 1 : -29);
            text("h|" + times("(", n) + "*" + times(")", n) + ":f", can ? 1 : -26);
        }
        text("((((*))))&((((*)))):f", 1);
        text("((((*)|(*)))):f", 1);
        text("((((*)|((*))))):f", -28);
        text("(((*)&(((*))))):f", -28);
        text("*:f;((((*)))):f", 2);
        text("*:f;(((((*))))):f", -28);
        text("(((((", -24);
        text("((((", -24);
        holds("((((*))))", true);
        holds("((((h))))", false);
        holds("!((((!*))))", true);
        holds("((((h|*)&*)|h)&*)", true);
        holds("(((*&(h|h))))", false);
    }

    private static void bracketsInPairs() {
        text("(", -21);
        text("()", -21);
        text(")", -20);
        text("(*", -22);
        text("(*:f", -22);
        text("(*;", -22);
        text("*)", -21);
        text("(*)):f", -23);
        text("((*):f", -24);
        text("(*)(*):f", -23);
        text("(*)*:f", -23);
        text("*(h):f", -21);
        text("(*:f):f", -22);
        text("*:(f)", -22);
        text("*:f)", -23);
    }

    /** "-20 less the place of the first byte (behind blanks) that can't stand there" */
    private static void theFirstByteThatCantStandThere() {
        text("z", -20);
        text(" z", -21);
        text("   z", -23);
        text("* z", -22);
        text("*: z", -23);
        text("*:f z", -24);
        text("*:f; z", -25);
        text("w  z", -23);
        text("w 4:f", -22);
        text("*:s  4", -25);
        text("! ! *", -22);
        text("*:f;z;z", -24);
        text("f:*", -20);
        text("w0w0:f", -22);
        text("*:f*:f", -23);
        text("*:f:f", -23);
        text("*::f", -22);
        text("X:f", -20);
        text("*:F", -22);
        text("~", -20);
    }

    /** "(the end: how many bytes there are)" */
    private static void theEndIsHowManyBytesThereAre() {
        String whole = "!w1&(t2|m3)&x:s1o2;h:fgpd";
        int[] good = new int[whole.length() + 1];
        good[whole.length()] = 2;
        good[whole.length() - 1] = 2;
        good[whole.length() - 2] = 2;
        good[whole.length() - 3] = 2;
        good[18] = 1;
        good[16] = 1;
        for (int n = 0; n <= whole.length(); n++) {
            for (int blanks = 0; blanks <= 2; blanks++) {
                text(whole.substring(0, n) + times(" ", blanks), good[n] > 0 ? good[n] : -20 - n - blanks);
            }
        }
        text(" ", -21);
        text(times(" ", 8), -28);
    }

    /** "bytes 32 count for nothing" */
    private static void blanksCountForNothing() {
        String whole = "!w1&(t2|m3)&x:s1o2;h:fgpd";
        for (int at = 0; at <= whole.length(); at++) {
            text(whole.substring(0, at) + "   " + whole.substring(at), 2);
        }
        StringBuilder spread = new StringBuilder(" ");
        for (char c : whole.toCharArray()) {
            spread.append(c).append("  ");
        }
        text(spread.toString(), 2);
        ThinkingArms x = withArm();
        Check.due("read", Check.rules(x, 0, " ! w  0 : f ;  ! ( ! x ) : g ; * : s  2 o   3 "), 3);
        Check.due("piece 1 finds", x.finds(0, 1), 2);
        Check.due("the tip finds", x.finds(0, 2), 1);
        x.ticks(1);
        Check.due("its memory", x.piece(0, 1, 1), 2);
        Check.due("its word", x.piece(0, 1, 3), 3);
    }

    /** A byte put in the stead of another can stand there or it is the fault; what is ahead of it never is. */
    private static void everySignAtEveryPlace() {
        String whole = "!w1&(t2|*)&x:s1o2;h:f";
        String[] can = {"!wtmhx*( ", "wtmhx*( ", "0123 "};
        for (int at = 0; at < can.length; at++) {
            for (char c = 32; c < 127; c++) {
                ThinkingArms x = withArm();
                int got = Check.rules(x, 0, whole.substring(0, at) + c + whole.substring(at + 1));
                if (can[at].indexOf(c) >= 0) {
                    Check.holds("'" + c + "' can stand at " + at, got > 0 || got < -20 - at);
                } else {
                    Check.due("'" + c + "' at " + at, got, -20 - at);
                }
            }
        }
    }

    /** "(No RULES at first: nothing is done.)" */
    private static void noRulesAtFirst() {
        ThinkingArms x = withArm();
        x.thing(4, 3, 0);
        x.head(0, 3);
        Check.due("none", x.finds(0, 1), NONE);
        Check.due("none", x.finds(0, 2), NONE);
        Check.due("nothing", x.ticks(60), 0);
        Check.due("it lies", x.told(0, 1), 28);
        Check.due("its form", x.form(0), 0);
        Check.due("no word", x.piece(0, 1, 3), 0);
        Check.due("no memory", x.piece(0, 1, 1), 0);
        Check.due("but the head's", x.piece(0, 0, 3), 3);
    }

    /** "THE TAPE, which is empty then"; "BAD (THE TAPE stays)" */
    private static void theTapeIsEmptyThen() {
        ThinkingArms x = withArm();
        Check.type(x, "*:f");
        Check.due("no such arm", x.rules(1), BAD);
        Check.due("no such arm", x.rules(-1), BAD);
        Check.due("the tape has stayed", x.type(' ', 1), 4);
        Check.due("read", x.rules(0), 1);
        Check.due("it is empty", x.rules(0), -20);
        Check.due("the rules are as they were", x.finds(0, 1), 0);
        Check.due("it is empty", x.type('z', 1), 1);
        Check.due("a fault", x.rules(0), -20);
        Check.due("it is empty", x.type('*', 1), 1);
        Check.due("what was there is forgotten", x.rules(0), -21);
    }

    /** "What answers so changes nothing, but as told": rules behind a fault are those ahead of it. */
    private static void aFaultChangesNoRules() {
        String[] faulty = {"", "*", "*:", "h:f;*:g;", "h:f;h:f;h:f;h:f;h:f;h:f;h:f", "*:fffff", "(((((*))))):f", "w4:f", "*:s4"};
        for (String text : faulty) {
            ThinkingArms x = withArm();
            Check.rules(x, 0, "h:f;x:s3;*:s2o1");
            Check.holds("'" + text + "' has a fault", Check.rules(x, 0, text) <= -20);
            Check.due("found as ahead of it", x.finds(0, 1), 2);
            Check.due("found as ahead of it", x.finds(0, 2), 1);
            x.ticks(1);
            Check.due("done as ahead of it", x.piece(0, 1, 1), 2);
            Check.due("done as ahead of it", x.piece(0, 2, 1), 3);
        }
    }

    /** "the word it hears is that": of the piece ahead of it, of the tick ahead; 0 at first */
    private static void theWordItHears() {
        for (int word = 0; word <= 3; word++) {
            ThinkingArms x = withArm();
            x.head(0, word);
            Check.rules(x, 0, "w" + word + ":o" + word);
            Check.due("at first 0", x.finds(0, 1), word == 0 ? 0 : NONE);
            Check.due("at first 0", x.finds(0, 2), word == 0 ? 0 : NONE);
            x.ticks(1);
            Check.due("piece 1 hears", x.finds(0, 1), 0);
            Check.due("piece 2 does not", x.finds(0, 2), word == 0 ? 0 : NONE);
            x.ticks(1);
            Check.due("piece 2 hears", x.finds(0, 2), 0);
        }
    }

    /** "LYING at its CELL or a CELL to a SIDE of it" */
    private static void feelsItsCellAndSides() {
        for (int cell = 0; cell < 64; cell++) {
            ThinkingArms x = new ThinkingArms();
            x.arm(3, 2, 2, 1);
            x.thing(cell % 8, cell / 8, 2);
            Check.rules(x, 0, "t2:f;t0|t1|t3:g");
            int dx = cell % 8 - 3, dy = cell / 8 - 3;
            Check.due("a thing at " + cell, x.finds(0, 1), dx * dx + dy * dy <= 1 ? 0 : NONE);
        }
        for (int taste = 0; taste < 4; taste++) {
            for (int claim = 0; claim < 4; claim++) {
                ThinkingArms x = new ThinkingArms();
                x.arm(3, 2, 2, 1);
                x.thing(3, 3, taste);
                Check.rules(x, 0, "t" + claim + ":f");
                Check.due("taste " + taste + " by t" + claim, x.finds(0, 1), taste == claim ? 0 : NONE);
            }
        }
    }

    /** A cell at the sea's end has fewer sides; none leads round to the other end. */
    private static void feelsNotRoundTheSea() {
        int[][] tips = {{1, 0, 2, 0}, {6, 0, 0, 7}, {1, 7, 2, 56}, {6, 7, 0, 63}, {6, 3, 0, 31}, {1, 3, 2, 24}, {3, 1, 3, 3}, {3, 6, 1, 59}};
        for (int[] t : tips) {
            for (int cell = 0; cell < 64; cell++) {
                ThinkingArms x = new ThinkingArms();
                x.arm(t[0], t[1], 2, t[2]);
                x.thing(cell % 8, cell / 8, 1);
                Check.rules(x, 0, "t1:gs1");
                int apart = Math.abs(cell % 8 - t[3] % 8) + Math.abs(cell / 8 - t[3] / 8);
                Check.due("from " + t[3] + " a thing at " + cell, x.finds(0, 1), apart <= 1 ? 0 : NONE);
                Check.rules(x, 0, "*:g");
                x.ticks(1);
                Check.due("from " + t[3] + " grabbed at " + cell, x.piece(0, 1, 2), apart <= 1 ? 0 : NONE);
            }
        }
    }

    private static void feelsOnlyWhatLies() {
        ThinkingArms x = new ThinkingArms();
        x.arm(3, 3, 3, 0);
        x.thing(5, 3, 1);
        Check.rules(x, 0, "x&t1&!h:g");
        Check.due("piece 1 feels it to its east", Check.rules(x, 0, "t1&!h:f;h:p"), 2);
        Check.due("piece 1 feels it to its east", x.finds(0, 1), 0);
        Check.rules(x, 0, "x&!h:g;t1:s1");
        x.ticks(1);
        Check.due("a held one is not felt by its piece", x.finds(0, 2), NONE);
        Check.due("a held one is not felt by the next", x.finds(0, 1), NONE);
        Check.rules(x, 0, "x:d;t1:s1");
        x.ticks(1);
        Check.due("let go it is felt again", x.finds(0, 1), 1);
        ThinkingArms y = new ThinkingArms();
        y.arm(3, 3, 2, 0);
        y.thing(4, 3, 1);
        Check.rules(y, 0, "t1:gp;*:s3");
        y.ticks(1);
        Check.due("an eaten one is not felt", y.finds(0, 1), 1);
    }

    private static void memoryHoldsTip() {
        for (int m = 0; m <= 3; m++) {
            ThinkingArms x = withArm();
            Check.rules(x, 0, "x:s" + m);
            x.ticks(1);
            Check.rules(x, 0, "m" + m + ":f");
            Check.due("memory " + m, x.finds(0, 2), 0);
            Check.due("memory at first 0", x.finds(0, 1), m == 0 ? 0 : NONE);
        }
        everyClaimOfItsOwn();
        ThinkingArms y = withArm();
        y.thing(5, 3, 0);
        Check.rules(y, 0, "x:g");
        y.ticks(1);
        Check.rules(y, 0, "h:f");
        Check.due("it holds", y.finds(0, 2), 0);
        Check.due("it does not", y.finds(0, 1), NONE);
        Check.rules(y, 0, "x:f");
        Check.due("a tip", y.finds(0, 2), 0);
        Check.due("no tip", y.finds(0, 1), NONE);
        y.cut(0, 2);
        Check.due("a tip by the cut", y.finds(0, 1), 0);
        Check.due("the last one is still", y.finds(0, 2), 0);
    }

    /** Of all claims with a digit just those that are meant hold, for piece 1 that hears w, feels t, remembers m, holds or not. */
    private static void everyClaimOfItsOwn() {
        String[] claims = {"w0", "w1", "w2", "w3", "t0", "t1", "t2", "t3", "m0", "m1", "m2", "m3", "h", "x", "*"};
        for (int k = 0; k < 4 * 4 * 4 * 2; k++) {
            int w = k & 3, t = k >> 2 & 3, m = k >> 4 & 3, h = k >> 6;
            ThinkingArms x = withArm();
            x.head(0, w);
            x.skin(3 - t);
            if (h == 1) {
                x.thing(4, 3, t);
                Check.rules(x, 0, "!x:gs" + m);
            } else {
                Check.rules(x, 0, "!x:s" + m);
            }
            x.ticks(1);
            x.thing(4, 2, t);
            for (int c = 0; c < claims.length; c++) {
                Check.rules(x, 0, claims[c] + ":f");
                boolean want = c == w || c == 4 + t || c == 8 + m || c == 12 && h == 1 || c == 14;
                Check.due(claims[c] + " where w" + w + " t" + t + " m" + m + " h" + h, x.finds(0, 1), want ? 0 : NONE);
            }
        }
    }

    /** "(the first whose TEST holds, or none)" */
    private static void theFirstClauseWhoseTestHolds() {
        for (int first = 0; first <= 6; first++) {
            ThinkingArms x = withArm();
            StringBuilder text = new StringBuilder();
            for (int c = 0; c < 6; c++) {
                text.append(c > 0 ? ";" : "").append(c < first ? "h:f" : "*:f");
            }
            Check.due("six", Check.rules(x, 0, text.toString()), 6);
            Check.due("the first that holds", x.finds(0, 1), first < 6 ? first : NONE);
        }
    }
}

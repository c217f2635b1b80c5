/** The sentences on SHEETS that name an edge, each with a test of its own; promises 3 and 24 to 29. */
public final class EdgeSheetTest {
    private static final int BAD = -1, NOT = -2, NONE = -4, NULL = -11, CAST = -12, INDEX = -13, SIZE = -14;
    private static final int MIN = Integer.MIN_VALUE, MAX = Integer.MAX_VALUE;

    public static void main(String[] args) {
        sheetsAre0To3();
        lanesAre0To2();
        zeroTo64Items();
        zeroAtFirst();
        aNewRow();
        holdsNothing();
        itemsFromFirstToLast();
        lowestBits();
        booleansWhetherNotZero();
        wallsOf64();
        wallsTakeTheSteadOfAll();
        wallsAtNoPieceNoThing();
        filmFromItemIOn();
        filmOfLanes1And2();
        filmOfACutArm();
        differsTheFirst();
        differsAtTheRowsEnd();
        copyFromAndTo();
        copyOfNone();
        copyAsIfAllWereTakenAhead();
        copyOfUnlikeLanes();
        theMachinesOrder();
        Check.end();
    }

    /** An arm of n pieces on the first cells, and a row of ints with them from item i on. */
    private static ThinkingArms withArm(int n) {
        ThinkingArms x = new ThinkingArms();
        x.arm(0, 1, n, 0);
        return x;
    }

    /** "SHEETS 0 .. 3" */
    private static void sheetsAre0To3() {
        ThinkingArms x = new ThinkingArms();
        for (int s = -1; s <= 4; s++) {
            boolean can = s >= 0 && s <= 3;
            Check.due("sheet " + s, x.sheet(s, 2, 10 + s), can ? 10 + s : BAD);
        }
        for (int s = -1; s <= 4; s++) {
            boolean can = s >= 0 && s <= 3;
            Check.due("item of sheet " + s, x.item(s, 2, 0, 5), can ? 1 : BAD);
            Check.due("copy from sheet " + s, x.copy(s, 0, 0, 0, 1), can ? 1 : BAD);
            Check.due("copy to sheet " + s, x.copy(0, 0, s, 0, 1), can ? 1 : BAD);
            Check.due("walls of sheet " + s, x.walls(s), can ? CAST : BAD);
        }
        for (int s = -1; s <= 4; s++) {
            boolean can = s >= 0 && s <= 3;
            Check.due("drop " + s, x.drop(s), can ? 10 + s : BAD);
        }
    }

    /** "a LANE: 0 booleans, 1 bytes, 2 ints" */
    private static void lanesAre0To2() {
        for (int lane = -1; lane <= 3; lane++) {
            ThinkingArms x = new ThinkingArms();
            boolean can = lane >= 0 && lane <= 2;
            Check.due("lane " + lane, x.sheet(0, lane, 5), can ? 5 : BAD);
            for (int as = -1; as <= 3; as++) {
                int want = as < 0 || as > 2 ? BAD : !can ? NULL : as == lane ? 1 : CAST;
                Check.due("lane " + lane + " as " + as, x.item(0, as, 0, 1), want);
            }
        }
    }

    /** "of 0 to 64 items"; "BAD: also n above 64; SIZE: n below 0" */
    private static void zeroTo64Items() {
        for (int lane = 0; lane <= 2; lane++) {
            ThinkingArms x = new ThinkingArms();
            Check.due("none", x.sheet(0, lane, 0), 0);
            Check.due("it has none", x.item(0, lane, 0, 1), INDEX);
            Check.due("one", x.sheet(0, lane, 1), 1);
            Check.due("it has one", x.item(0, lane, 0, 1), 1);
            Check.due("it has no second", x.item(0, lane, 1, 1), INDEX);
            Check.due("63", x.sheet(0, lane, 63), 63);
            Check.due("the last", x.item(0, lane, 62, 1), 1);
            Check.due("no 64th", x.item(0, lane, 63, 1), INDEX);
            Check.due("64", x.sheet(0, lane, 64), 64);
            Check.due("the last", x.item(0, lane, 63, 1), 1);
            Check.due("no 65th", x.item(0, lane, 64, 1), INDEX);
            Check.due("65", x.sheet(0, lane, 65), BAD);
            Check.due("MAX", x.sheet(0, lane, MAX), BAD);
            Check.due("-1", x.sheet(0, lane, -1), SIZE);
            Check.due("MIN", x.sheet(0, lane, MIN), SIZE);
            Check.due("it has 64 still", x.drop(0), 64);
        }
    }

    /** "(0 at first)" */
    private static void zeroAtFirst() {
        ThinkingArms x = new ThinkingArms();
        x.arm(0, 0, 2, 0);
        for (int lane = 1; lane <= 2; lane++) {
            x.sheet(0, lane, 64);
            for (int i = 0; i <= 62; i++) {
                x.item(0, lane, i + 1, 1);
                Check.due("item " + i + " is cell 0, the next one 1", x.differs(0, 0, lane, i), NONE);
                x.item(0, lane, i + 1, 0);
            }
        }
        x.sheet(0, 0, 64);
        Check.due("booleans", x.walls(0), 0);
    }

    /** "A SHEET holds a new row of a LANE": nothing of the old one is in it. */
    private static void aNewRow() {
        ThinkingArms x = new ThinkingArms();
        x.sheet(0, 0, 64);
        for (int i = 0; i < 64; i++) {
            x.item(0, 0, i, 1);
        }
        Check.due("all", x.walls(0), 64);
        x.sheet(0, 0, 64);
        Check.due("none", x.walls(0), 0);
        for (int i = 0; i < 64; i++) {
            x.item(0, 0, i, 1);
        }
        x.sheet(0, 0, 3);
        x.sheet(0, 0, 64);
        Check.due("none, by a short row", x.walls(0), 0);
        x.item(0, 0, 63, 1);
        x.drop(0);
        x.sheet(0, 0, 64);
        Check.due("none, by nothing", x.walls(0), 0);
        x.arm(3, 3, 2, 0);
        x.sheet(1, 2, 4);
        x.film(0, 1, 2, 0);
        x.sheet(1, 1, 4);
        Check.due("another lane", x.differs(0, 1, 1, 0), 0);
        Check.due("not the old lane", x.differs(0, 1, 2, 0), CAST);
    }

    /** "hold nothing (at first)"; "A SHEET holds nothing: how many items it had. BAD; NULL." */
    private static void holdsNothing() {
        ThinkingArms x = new ThinkingArms();
        for (int s = 0; s < 4; s++) {
            Check.due("at first", x.drop(s), NULL);
            Check.due("item", x.item(s, 0, 0, 0), NULL);
            Check.due("walls", x.walls(s), NULL);
            Check.due("copy from", x.copy(s, 0, s, 0, 0), NULL);
            int[] sizes = {0, 1, 63, 64};
            for (int n : sizes) {
                x.sheet(s, s % 3, n);
                Check.due("it had " + n, x.drop(s), n);
                Check.due("then nothing", x.drop(s), NULL);
                Check.due("no item", x.item(s, s % 3, 0, 0), NULL);
            }
        }
    }

    private static void itemsFromFirstToLast() {
        for (int n = 1; n <= 64; n += 9) {
            ThinkingArms x = new ThinkingArms();
            x.sheet(2, 0, 64);
            x.sheet(1, 0, n);
            for (int i = 0; i < n; i++) {
                Check.due("item " + i, x.item(1, 0, i, 1), 1);
            }
            Check.due("-1", x.item(1, 0, -1, 1), INDEX);
            Check.due("" + n, x.item(1, 0, n, 1), INDEX);
            x.copy(1, 0, 2, 64 - n, n);
            Check.due("all of them", x.walls(2), n);
        }
    }

    /** "becomes v, its lowest bits": a byte has eight of them, an int all */
    private static void lowestBits() {
        int[] others = {0, 256, -256, 512, 65536, 1 << 30, MIN, MAX - 255};
        for (int more : others) {
            ThinkingArms x = new ThinkingArms();
            x.arm(3, 3, 2, 0);
            x.sheet(0, 1, 2);
            x.sheet(1, 2, 2);
            x.item(0, 1, 0, 27 + more);
            x.item(0, 1, 1, 28 + more);
            x.item(1, 2, 0, 27 + more);
            x.item(1, 2, 1, 28 + more);
            Check.due("bytes of 27 + " + more, x.differs(0, 0, 1, 0), NONE);
            Check.due("ints of 27 + " + more, x.differs(0, 1, 2, 0), more == 0 ? NONE : 0);
        }
        int[] unlike = {64, 128, 128 + 64, -128, 255 - 27};
        for (int more : unlike) {
            ThinkingArms x = new ThinkingArms();
            x.arm(3, 3, 2, 0);
            x.sheet(0, 1, 2);
            x.film(0, 0, 1, 0);
            x.item(0, 1, 1, 28 + more);
            Check.due("the eighth bit counts: 28 + " + more, x.differs(0, 0, 1, 0), 1);
        }
    }

    /** "(booleans: whether v is not 0)" */
    private static void booleansWhetherNotZero() {
        int[] not0 = {1, -1, 2, 128, 256, 65536, MIN, MAX};
        ThinkingArms x = new ThinkingArms();
        x.sheet(0, 0, 64);
        for (int v : not0) {
            x.item(0, 0, 9, v);
            Check.due("v " + v, x.walls(0), 1);
            x.item(0, 0, 9, 0);
            Check.due("v 0", x.walls(0), 0);
        }
    }

    /** "taken as a row of booleans of 64 items"; "INDEX: it has fewer" */
    private static void wallsOf64() {
        ThinkingArms x = new ThinkingArms();
        for (int n = 0; n <= 64; n++) {
            x.sheet(0, 0, n);
            Check.due("of " + n, x.walls(0), n < 64 ? INDEX : 0);
        }
        for (int c = 0; c < 64; c++) {
            x.item(0, 0, c, 1);
            Check.due("how many there are", x.walls(0), c + 1);
        }
        Check.due("all", x.count(5), 64);
    }

    private static void wallsTakeTheSteadOfAll() {
        ThinkingArms x = new ThinkingArms();
        x.sheet(0, 0, 64);
        x.item(0, 0, 43, 1);
        x.wall(0, 0, true);
        Check.due("one", x.walls(0), 1);
        for (int c = 0; c < 64; c++) {
            Check.due("cell " + c, x.wall(c % 8, c / 8, false), c == 43 ? 1 : 0);
        }
        Check.due("the sheet stands", x.walls(0), 1);
        x.drop(0);
        Check.due("the walls stand without it", x.count(5), 1);
    }

    /** "NOT: a PIECE, a LYING THING would be at one" */
    private static void wallsAtNoPieceNoThing() {
        for (int cell = 0; cell < 64; cell++) {
            ThinkingArms x = new ThinkingArms();
            x.wall(7, 7, true);
            x.arm(0, 1, 3, 0);
            x.arm(0, 2, 2, 0);
            x.cut(1, 1);
            x.thing(5, 5, 0);
            x.thing(3, 1, 1);
            Check.rules(x, 0, "x:g");
            x.ticks(1);
            x.sheet(0, 0, 64);
            x.item(0, 0, 6, 1);
            x.item(0, 0, cell, 1);
            boolean taken = cell >= 8 && cell <= 10 || cell == 16 || cell == 17 || cell == 45;
            Check.due("cell " + cell, x.walls(0), taken ? NOT : cell == 6 ? 1 : 2);
            Check.due("then", x.count(5), taken || cell == 6 ? 1 : 2);
            Check.due("the old wall", x.wall(7, 7, false), taken || cell == 63 ? 1 : 0);
        }
    }

    /** "from item i on: how many .. INDEX" */
    private static void filmFromItemIOn() {
        for (int n = 2; n <= 7; n++) {
            for (int size = 0; size <= 9; size++) {
                ThinkingArms x = withArm(n);
                x.sheet(0, 2, size);
                for (int i = -1; i <= size + 1; i++) {
                    boolean can = i >= 0 && i + n <= size;
                    Check.due(n + " from " + i + " of " + size, x.film(0, 0, 2, i), can ? n : INDEX);
                    Check.due("likewise", x.differs(0, 0, 2, i), can ? NONE : INDEX);
                }
            }
        }
        ThinkingArms x = withArm(7);
        x.sheet(0, 1, 64);
        Check.due("the last seven", x.film(0, 0, 1, 57), 7);
        Check.due("one too far", x.film(0, 0, 1, 58), INDEX);
        Check.due("the first seven", x.film(0, 0, 1, 0), 7);
        Check.due("both are there", x.differs(0, 0, 1, 57), NONE);
        Check.due("between them nothing", x.differs(0, 0, 1, 7), 0);
    }

    /** "taken as a row of a LANE (1, 2)" */
    private static void filmOfLanes1And2() {
        for (int lane = 0; lane <= 2; lane++) {
            ThinkingArms x = withArm(3);
            x.sheet(0, lane, 8);
            for (int as = -1; as <= 3; as++) {
                int want = as < 1 || as > 2 ? BAD : as == lane ? 3 : CAST;
                Check.due("film, lane " + lane + " as " + as, x.film(0, 0, as, 0), want);
                Check.due("differs, lane " + lane + " as " + as, x.differs(0, 0, as, 0), want == 3 ? NONE : want);
            }
        }
        ThinkingArms y = new ThinkingArms();
        y.arm(7, 7, 3, 2 + 4 * 2);
        y.sheet(0, 1, 3);
        y.sheet(1, 2, 3);
        y.film(0, 0, 1, 0);
        y.film(0, 1, 2, 0);
        Check.due("cell 63 as a byte", y.differs(0, 0, 1, 0), NONE);
        Check.due("cell 63 as an int", y.differs(0, 1, 2, 0), NONE);
    }

    private static void filmOfACutArm() {
        ThinkingArms x = withArm(5);
        x.cut(0, 2);
        x.flip(0, 1);
        x.sheet(0, 1, 5);
        Check.due("all pieces", x.film(0, 0, 1, 0), 5);
        Check.due("where they are", x.differs(0, 0, 1, 0), NONE);
        x.flip(0, 1);
        Check.due("piece 1 has moved", x.differs(0, 0, 1, 0), 1);
        x.flip(0, 4);
        Check.due("the first of two", x.differs(0, 0, 1, 0), 1);
    }

    /** "The first PIECE of an ARM whose CELL is not an item of a SHEET, likewise"; "NONE: all are" */
    private static void differsTheFirst() {
        for (int unlike = 1; unlike < 128; unlike++) {
            ThinkingArms x = withArm(7);
            x.sheet(0, 1, 9);
            x.film(0, 0, 1, 1);
            for (int k = 0; k < 7; k++) {
                if ((unlike >> k & 1) != 0) {
                    x.item(0, 1, 1 + k, -1);
                }
            }
            Check.due("unlike at " + unlike, x.differs(0, 0, 1, 1), Integer.numberOfTrailingZeros(unlike));
            x.film(0, 0, 1, 1);
            Check.due("all are", x.differs(0, 0, 1, 1), NONE);
        }
    }

    /** INDEX, as in film, as soon as not all items are in the row: also where an earlier piece differs. */
    private static void differsAtTheRowsEnd() {
        ThinkingArms x = withArm(3);
        x.sheet(0, 2, 4);
        x.film(0, 0, 2, 1);
        Check.due("all in the row", x.differs(0, 0, 2, 1), NONE);
        Check.due("the third is not, the first differs", x.differs(0, 0, 2, 2), INDEX);
        x.item(0, 2, 2, 8);
        x.item(0, 2, 3, 9);
        Check.due("the third is not, those ahead are alike", x.differs(0, 0, 2, 2), INDEX);
        Check.due("none is", x.differs(0, 0, 2, 4), INDEX);
        Check.due("the first is not", x.differs(0, 0, 2, -1), INDEX);
    }

    /** "n items of a SHEET from i on come to another one .. from j on .. INDEX" */
    private static void copyFromAndTo() {
        for (int n = -1; n <= 5; n++) {
            for (int i = -1; i <= 5; i++) {
                ThinkingArms x = new ThinkingArms();
                x.sheet(0, 1, 4);
                x.sheet(1, 1, 3);
                for (int j = -1; j <= 4; j++) {
                    boolean can = n >= 0 && i >= 0 && j >= 0 && i + n <= 4 && j + n <= 3;
                    Check.due(n + " from " + i + " to " + j, x.copy(0, i, 1, j, n), can ? n : INDEX);
                }
            }
        }
        ThinkingArms x = withArm(3);
        x.sheet(0, 2, 5);
        x.sheet(1, 2, 64);
        x.film(0, 0, 2, 2);
        Check.due("to the row's end", x.copy(0, 2, 1, 61, 3), 3);
        Check.due("there they are", x.differs(0, 1, 2, 61), NONE);
        Check.due("and nowhere else", x.differs(0, 1, 2, 60), 0);
        Check.due("the source stands", x.differs(0, 0, 2, 2), NONE);
        int[][] wrap = {{1, 1, MAX}, {MAX, 1, 1}, {1, MAX, 1}, {MAX, MAX, 2}, {MAX, 0, MAX}, {2, 2, MAX - 1}};
        for (int[] w : wrap) {
            Check.due("no wrap-around", x.copy(0, w[0], 1, w[1], w[2]), INDEX);
        }
    }

    private static void copyOfNone() {
        ThinkingArms x = new ThinkingArms();
        x.sheet(0, 0, 0);
        x.sheet(1, 0, 5);
        Check.due("none from a row of none", x.copy(0, 0, 1, 5, 0), 0);
        Check.due("none to a row of none", x.copy(1, 5, 0, 0, 0), 0);
        Check.due("none of none to itself", x.copy(0, 0, 0, 0, 0), 0);
        Check.due("one from a row of none", x.copy(0, 0, 1, 0, 1), INDEX);
        Check.due("none, but beyond", x.copy(0, 1, 1, 0, 0), INDEX);
        Check.due("none, but beyond", x.copy(1, 0, 0, 1, 0), INDEX);
        Check.due("none, but ahead", x.copy(1, -1, 1, 0, 0), INDEX);
    }

    /** "(or the same) .. as if all were taken ahead" */
    private static void copyAsIfAllWereTakenAhead() {
        for (int i = 0; i <= 7; i++) {
            for (int j = 0; j <= 7; j++) {
                ThinkingArms x = withArm(7);
                x.sheet(0, 1, 14);
                x.film(0, 0, 1, i);
                Check.due("from " + i + " to " + j, x.copy(0, i, 0, j, 7), 7);
                Check.due("all came", x.differs(0, 0, 1, j), NONE);
            }
        }
        ThinkingArms y = new ThinkingArms();
        y.sheet(0, 0, 64);
        y.item(0, 0, 0, 1);
        Check.due("booleans, one on", y.copy(0, 0, 0, 1, 63), 63);
        Check.due("the first alone is there twice", y.walls(0), 2);
        Check.due("back", y.copy(0, 1, 0, 0, 63), 63);
        Check.due("the first alone", y.walls(0), 1);
    }

    /** "CAST: of unlike LANES" */
    private static void copyOfUnlikeLanes() {
        for (int from = 0; from <= 2; from++) {
            for (int to = 0; to <= 2; to++) {
                ThinkingArms x = new ThinkingArms();
                x.sheet(0, from, 5);
                x.sheet(1, to, 5);
                Check.due(from + " to " + to, x.copy(0, 0, 1, 0, 5), from == to ? 5 : CAST);
                Check.due(from + " to " + to + ", none", x.copy(0, 0, 1, 0, 0), from == to ? 0 : CAST);
                Check.due(from + " to " + to + ", index amiss", x.copy(0, 0, 1, 1, 5), from == to ? INDEX : CAST);
            }
        }
    }

    /** "what the machine finds: NULL -11, CAST -12, INDEX -13, SIZE -14, in this order" */
    private static void theMachinesOrder() {
        ThinkingArms x = withArm(3);
        x.sheet(1, 1, 2);
        x.sheet(2, 2, 2);
        Check.due("film: null, index", x.film(0, 0, 1, 9), NULL);
        Check.due("film: cast, index", x.film(0, 1, 2, 9), CAST);
        Check.due("film: index", x.film(0, 1, 1, 0), INDEX);
        Check.due("differs: null, index", x.differs(0, 0, 1, 9), NULL);
        Check.due("differs: cast, index", x.differs(0, 1, 2, 9), CAST);
        Check.due("differs: index", x.differs(0, 1, 1, 0), INDEX);
        Check.due("item: null, index", x.item(0, 1, 9, 0), NULL);
        Check.due("item: cast, index", x.item(1, 2, 9, 0), CAST);
        Check.due("item: index", x.item(1, 1, 9, 0), INDEX);
        Check.due("copy: null, index", x.copy(0, 9, 1, 9, 9), NULL);
        Check.due("copy: null, index", x.copy(1, 9, 0, 9, 9), NULL);
        Check.due("copy: cast, index", x.copy(1, 9, 2, 9, 9), CAST);
        Check.due("copy: index", x.copy(1, 9, 1, 9, 9), INDEX);
        Check.due("walls: cast, index", x.walls(1), CAST);
        x.sheet(3, 0, 63);
        x.item(3, 0, 8, 1);
        Check.due("walls: index, a piece", x.walls(3), INDEX);
        Check.due("sheet: bad, size", x.sheet(4, 1, -1), BAD);
        Check.due("sheet: bad, size", x.sheet(0, 3, -1), BAD);
        Check.due("sheet: size", x.sheet(0, 1, -1), SIZE);
    }
}

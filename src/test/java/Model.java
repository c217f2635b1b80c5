import java.util.ArrayDeque;
import java.util.ArrayList;
import java.util.Arrays;
import java.util.HashMap;
import java.util.List;
import java.util.Map;

/** The document told once more, as naively as can be, to be held against the program in random runs. */
final class Model {
    static final int BAD = -1, NOT = -2, FULL = -3, NONE = -4, NULL = -11, CAST = -12, INDEX = -13, SIZE = -14;
    static final int[][] SIDES = {{1, 0}, {0, 1}, {-1, 0}, {0, -1}};

    static final class Piece {
        int x, y, memory, said;
        Thing held;

        int cell() { return 8 * y + x; }
    }

    static final class Arm {
        final List<Piece> pieces = new ArrayList<>();
        int cutAt = -1, word = 0;
        String text = null;
    }

    static final class Thing {
        int number, x, y, taste, how, arm, piece;
    }

    static final class World {
        boolean[][] wall = new boolean[8][8];
        List<Arm> arms = new ArrayList<>();
        List<Thing> things = new ArrayList<>();
        int skin = 3, ticks = 0;

        World copy() {
            World w = new World();
            for (int x = 0; x < 8; x++) w.wall[x] = wall[x].clone();
            w.skin = skin;
            w.ticks = ticks;
            for (Thing t : things) {
                Thing c = new Thing();
                c.number = t.number; c.x = t.x; c.y = t.y; c.taste = t.taste; c.how = t.how; c.arm = t.arm; c.piece = t.piece;
                w.things.add(c);
            }
            for (Arm a : arms) {
                Arm c = new Arm();
                c.cutAt = a.cutAt; c.word = a.word; c.text = a.text;
                for (Piece p : a.pieces) {
                    Piece q = new Piece();
                    q.x = p.x; q.y = p.y; q.memory = p.memory; q.said = p.said;
                    q.held = p.held == null ? null : w.things.get(p.held.number);
                    c.pieces.add(q);
                }
                w.arms.add(c);
            }
            return w;
        }
    }

    World world = new World();
    final World[] images = new World[2];
    final Object[] sheets = new Object[4];
    String tape = "";

    // ---- the sea

    static boolean inSea(int x, int y) { return x >= 0 && y >= 0 && x <= 7 && y <= 7; }

    boolean pieceAt(int x, int y) {
        for (Arm a : world.arms) for (Piece p : a.pieces) if (p.x == x && p.y == y) return true;
        return false;
    }

    Thing lyingAt(int x, int y) {
        for (Thing t : world.things) if (t.how == 0 && t.x == x && t.y == y) return t;
        return null;
    }

    boolean free(int x, int y) { return inSea(x, y) && !world.wall[x][y] && !pieceAt(x, y); }

    int wall(int x, int y, boolean is) {
        if (!inSea(x, y)) return BAD;
        if (is && (pieceAt(x, y) || lyingAt(x, y) != null)) return NOT;
        int was = world.wall[x][y] ? 1 : 0;
        world.wall[x][y] = is;
        return was;
    }

    int walls(int sheet) {
        if (sheet < 0 || sheet > 3) return BAD;
        if (sheets[sheet] == null) return NULL;
        if (!(sheets[sheet] instanceof boolean[])) return CAST;
        boolean[] row = (boolean[]) sheets[sheet];
        if (row.length < 64) return INDEX;
        int count = 0;
        for (int c = 0; c < 64; c++) {
            if (row[c] && (pieceAt(c % 8, c / 8) || lyingAt(c % 8, c / 8) != null)) return NOT;
            if (row[c]) count++;
        }
        for (int c = 0; c < 64; c++) world.wall[c % 8][c / 8] = row[c];
        return count;
    }

    int arm(int x, int y, int pieces, int form) {
        if (!inSea(x, y) || pieces < 2 || pieces > 7 || form < 0 || form >= Math.pow(4, pieces - 1)) return BAD;
        Arm a = new Arm();
        int px = x, py = y, rest = form;
        for (int k = 0; k < pieces; k++) {
            if (k > 0) {
                px += SIDES[rest % 4][0];
                py += SIDES[rest % 4][1];
                rest /= 4;
            }
            if (!free(px, py)) return NOT;
            for (Piece p : a.pieces) if (p.x == px && p.y == py) return NOT;
            Piece p = new Piece();
            p.x = px;
            p.y = py;
            a.pieces.add(p);
        }
        if (world.arms.size() == 3) return FULL;
        world.arms.add(a);
        return world.arms.size() - 1;
    }

    int thing(int x, int y, int taste) {
        if (!inSea(x, y) || taste < 0 || taste > 3) return BAD;
        if (world.wall[x][y] || lyingAt(x, y) != null) return NOT;
        if (world.things.size() == 8) return FULL;
        Thing t = new Thing();
        t.number = world.things.size();
        t.x = x;
        t.y = y;
        t.taste = taste;
        world.things.add(t);
        return t.number;
    }

    boolean noArm(int arm) { return arm < 0 || arm >= world.arms.size(); }

    boolean noPiece(int arm, int piece) { return noArm(arm) || piece < 0 || piece >= world.arms.get(arm).pieces.size(); }

    static boolean tip(Arm a, int k) {
        return k == a.pieces.size() - 1 || a.cutAt >= 1 && k == a.cutAt - 1;
    }

    int piece(int arm, int piece, int what) {
        if (noPiece(arm, piece) || what < 0 || what > 5) return BAD;
        Arm a = world.arms.get(arm);
        Piece p = a.pieces.get(piece);
        int[] all = {p.cell(), p.memory, p.held == null ? NONE : p.held.number, p.said,
            a.cutAt >= 1 && piece >= a.cutAt ? 1 : 0, tip(a, piece) ? 1 : 0};
        return all[what];
    }

    int told(int thing, int what) {
        if (thing < 0 || thing >= world.things.size() || what < 0 || what > 3) return BAD;
        Thing t = world.things.get(thing);
        int cell = t.how == 0 ? 8 * t.y + t.x : t.how == 1 ? world.arms.get(t.arm).pieces.get(t.piece).cell() : NONE;
        int[] all = {t.how, cell, t.taste, t.how == 0 ? NONE : 10 * t.arm + t.piece};
        return all[what];
    }

    int form(int arm) {
        if (noArm(arm)) return BAD;
        Arm a = world.arms.get(arm);
        if (a.cutAt >= 1) return NOT;
        int form = 0;
        for (int k = a.pieces.size() - 1; k >= 1; k--) form = 4 * form + side(a.pieces.get(k - 1), a.pieces.get(k));
        return form;
    }

    static int side(Piece from, Piece to) {
        for (int s = 0; s < 4; s++) if (from.x + SIDES[s][0] == to.x && from.y + SIDES[s][1] == to.y) return s;
        throw new IllegalStateException("pieces are apart");
    }

    static boolean beside(int x, int y, Piece p) { return Math.abs(x - p.x) + Math.abs(y - p.y) == 1; }

    boolean move(Arm a, int k) {
        Piece p = a.pieces.get(k);
        Piece ahead = a.pieces.get(k - 1);
        if (tip(a, k)) {
            int s = side(ahead, p);
            for (int more = 1; more <= 4; more++) {
                int x = ahead.x + SIDES[(s + more) % 4][0], y = ahead.y + SIDES[(s + more) % 4][1];
                if (free(x, y)) {
                    p.x = x;
                    p.y = y;
                    return true;
                }
            }
            return false;
        }
        Piece behind = a.pieces.get(k + 1);
        if (Math.abs(ahead.x - behind.x) != 1 || Math.abs(ahead.y - behind.y) != 1) return false;
        for (int x = 0; x < 8; x++) for (int y = 0; y < 8; y++) {
            if (beside(x, y, ahead) && beside(x, y, behind) && (x != p.x || y != p.y)) {
                if (!free(x, y)) return false;
                p.x = x;
                p.y = y;
                return true;
            }
        }
        return false;
    }

    int flip(int arm, int piece) {
        if (noPiece(arm, piece) || piece == 0 || world.arms.get(arm).cutAt == piece) return BAD;
        Arm a = world.arms.get(arm);
        return move(a, piece) ? a.pieces.get(piece).cell() : NOT;
    }

    // ---- rules

    int type(long w, int n) {
        if (n < 1 || n > 8) return BAD;
        StringBuilder more = new StringBuilder();
        for (int k = n - 1; k >= 0; k--) {
            int b = (int) (w >> 8 * k & 255);
            if (b < 32 || b > 126) return BAD;
            more.append((char) b);
        }
        if (tape.length() + n > 100) return FULL;
        tape += more;
        return tape.length();
    }

    /** Byte by byte, by what may stand next: how many clauses, or a fault. */
    static int judge(String text) {
        String state = "claim";
        int open = 0, acts = 0, clauses = 1;
        for (int i = 0; i < text.length(); i++) {
            char c = text.charAt(i);
            if (c == ' ') continue;
            String next = null;
            switch (state) {
                case "claim":
                case "bare claim":
                    if (c == '!' && state.equals("claim")) next = "bare claim";
                    if ("wtm".indexOf(c) >= 0) next = "digit of claim";
                    if ("hx*".indexOf(c) >= 0) next = "behind claim";
                    if (c == '(' && open < 4) { open++; next = "claim"; }
                    break;
                case "digit of claim":
                    if (c >= '0' && c <= '3') next = "behind claim";
                    break;
                case "behind claim":
                    if (c == '&' || c == '|') next = "claim";
                    if (c == ')' && open > 0) { open--; next = "behind claim"; }
                    if (c == ':' && open == 0) { acts = 0; next = "act"; }
                    break;
                case "digit of act":
                    if (c >= '0' && c <= '3') next = "behind act";
                    break;
                default:
                    if (acts < 4 && "fgpd".indexOf(c) >= 0) { acts++; next = "behind act"; }
                    if (acts < 4 && "so".indexOf(c) >= 0) { acts++; next = "digit of act"; }
                    if (c == ';' && state.equals("behind act") && clauses < 6) { clauses++; next = "claim"; }
            }
            if (next == null) return -20 - i;
            state = next;
        }
        return state.equals("behind act") ? clauses : -20 - text.length();
    }

    int rules(int arm) {
        if (noArm(arm)) return BAD;
        String text = tape;
        tape = "";
        int judged = judge(text);
        if (judged > 0) world.arms.get(arm).text = text.replace(" ", "");
        return judged;
    }

    /** Splits at signs that stand in no brackets. */
    static List<String> split(String text, char at) {
        List<String> parts = new ArrayList<>();
        int open = 0, from = 0;
        for (int i = 0; i < text.length(); i++) {
            if (text.charAt(i) == '(') open++;
            if (text.charAt(i) == ')') open--;
            if (text.charAt(i) == at && open == 0) {
                parts.add(text.substring(from, i));
                from = i + 1;
            }
        }
        parts.add(text.substring(from));
        return parts;
    }

    boolean test(String test, Arm a, int k) {
        for (String c : split(test, '|')) if (caseHolds(c, a, k)) return true;
        return false;
    }

    boolean caseHolds(String text, Arm a, int k) {
        for (String c : split(text, '&')) if (!claim(c, a, k)) return false;
        return true;
    }

    boolean claim(String text, Arm a, int k) {
        Piece p = a.pieces.get(k);
        char last = text.charAt(text.length() - 1);
        switch (text.charAt(0)) {
            case '!': return !claim(text.substring(1), a, k);
            case '(': return test(text.substring(1, text.length() - 1), a, k);
            case 'w': return a.pieces.get(k - 1).said == last - '0';
            case 'm': return p.memory == last - '0';
            case 'h': return p.held != null;
            case 'x': return tip(a, k);
            case 't':
                for (Thing t : world.things) {
                    boolean near = Math.abs(t.x - p.x) + Math.abs(t.y - p.y) <= 1;
                    if (t.how == 0 && t.taste == last - '0' && near) return true;
                }
                return false;
            default: return true;
        }
    }

    int clause(Arm a, int k) {
        if (a.text == null) return NONE;
        String[] clauses = a.text.split(";");
        for (int c = 0; c < clauses.length; c++) if (test(clauses[c].split(":")[0], a, k)) return c;
        return NONE;
    }

    int head(int arm, int word) {
        if (noArm(arm) || word < 0 || word > 3) return BAD;
        int was = world.arms.get(arm).word;
        world.arms.get(arm).word = word;
        return was;
    }

    int skin(int taste) {
        if (taste < 0 || taste > 3) return BAD;
        int was = world.skin;
        world.skin = taste;
        return was;
    }

    void tick() {
        List<List<String>> todo = new ArrayList<>();
        for (Arm a : world.arms) {
            List<String> acts = new ArrayList<>();
            for (int k = 0; k < a.pieces.size(); k++) {
                int c = k == 0 || k == a.cutAt ? NONE : clause(a, k);
                acts.add(c == NONE ? "" : a.text.split(";")[c].split(":")[1]);
            }
            todo.add(acts);
        }
        for (int n = 0; n < world.arms.size(); n++) {
            Arm a = world.arms.get(n);
            a.pieces.get(0).said = a.word;
            for (int k = 1; k < a.pieces.size(); k++) act(n, k, todo.get(n).get(k));
        }
        world.ticks++;
    }

    void act(int n, int k, String acts) {
        Arm a = world.arms.get(n);
        Piece p = a.pieces.get(k);
        p.said = 0;
        for (int i = 0; i < acts.length(); i++) {
            char c = acts.charAt(i);
            if (c == 'f') move(a, k);
            if (c == 'g') grab(n, k);
            if (c == 'p') pass(n, k);
            if (c == 's') p.memory = acts.charAt(i + 1) - '0';
            if (c == 'o') p.said = acts.charAt(i + 1) - '0';
            if (c == 'd' && p.held != null && lyingAt(p.x, p.y) == null) {
                p.held.how = 0;
                p.held.x = p.x;
                p.held.y = p.y;
                p.held = null;
            }
        }
    }

    void grab(int n, int k) {
        Piece p = world.arms.get(n).pieces.get(k);
        int[][] places = {{p.x, p.y}, {p.x + 1, p.y}, {p.x, p.y + 1}, {p.x - 1, p.y}, {p.x, p.y - 1}};
        for (int[] place : places) {
            Thing t = lyingAt(place[0], place[1]);
            if (p.held == null && t != null && t.taste != world.skin) hold(t, n, k);
        }
    }

    void hold(Thing t, int n, int k) {
        world.arms.get(n).pieces.get(k).held = t;
        t.how = 1;
        t.arm = n;
        t.piece = k;
    }

    void pass(int n, int k) {
        Arm a = world.arms.get(n);
        Thing t = a.pieces.get(k).held;
        if (t == null) return;
        if (k == 1) {
            a.pieces.get(1).held = null;
            t.how = 2;
            t.arm = n;
            t.piece = 0;
        } else if (a.pieces.get(k - 1).held == null && a.cutAt != k - 1) {
            a.pieces.get(k).held = null;
            hold(t, n, k - 1);
        }
    }

    int things(int how) {
        int count = 0;
        for (Thing t : world.things) if (t.how == how) count++;
        return count;
    }

    int ticks(int n) {
        if (n < 1 || n > 60) return BAD;
        for (int t = 0; t < n; t++) tick();
        return things(2);
    }

    int finds(int arm, int piece) {
        if (noPiece(arm, piece) || piece == 0) return BAD;
        return clause(world.arms.get(arm), piece);
    }

    int cut(int arm, int piece) {
        if (noPiece(arm, piece) || piece == 0) return BAD;
        Arm a = world.arms.get(arm);
        if (a.cutAt >= 1) return NOT;
        a.cutAt = piece;
        int count = 0;
        for (int k = 0; k < a.pieces.size(); k++) count += piece(arm, k, 4);
        return count;
    }

    int count(int what) {
        if (what < 0 || what > 6) return BAD;
        int walls = 0;
        for (boolean[] row : world.wall) for (boolean is : row) if (is) walls++;
        int[] all = {world.arms.size(), world.things.size(), things(0), things(1), things(2), walls, world.ticks};
        return all[what];
    }

    // ---- reach

    static List<Integer> cells(Arm a) {
        List<Integer> cells = new ArrayList<>();
        for (Piece p : a.pieces) cells.add(p.cell());
        return cells;
    }

    static boolean touch(int a, int b) { return Math.abs(a % 8 - b % 8) + Math.abs(a / 8 - b / 8) == 1; }

    /** All rows of cells that the arm can come to, each with its fewest moves. */
    Map<List<Integer>, Integer> search(Arm a) {
        Map<List<Integer>, Integer> moves = new HashMap<>();
        ArrayDeque<List<Integer>> todo = new ArrayDeque<>();
        moves.put(cells(a), 0);
        todo.add(cells(a));
        while (!todo.isEmpty()) {
            List<Integer> now = todo.remove();
            for (int k = 1; k < now.size(); k++) for (int to = 0; to < 64; to++) {
                if (!canGo(a, now, k, to)) continue;
                List<Integer> then = new ArrayList<>(now);
                then.set(k, to);
                if (moves.putIfAbsent(then, moves.get(now) + 1) == null) todo.add(then);
            }
        }
        return moves;
    }

    boolean canGo(Arm a, List<Integer> now, int k, int to) {
        if (now.contains(to) || world.wall[to % 8][to / 8] || !touch(now.get(k - 1), to)) return false;
        for (Arm other : world.arms) if (other != a && cells(other).contains(to)) return false;
        if (k == now.size() - 1) return true;
        int ahead = now.get(k - 1), behind = now.get(k + 1);
        boolean corner = Math.abs(ahead % 8 - behind % 8) == 1 && Math.abs(ahead / 8 - behind / 8) == 1;
        return corner && touch(behind, to);
    }

    int forms(int arm) {
        if (noArm(arm)) return BAD;
        if (world.arms.get(arm).cutAt >= 1) return NOT;
        return search(world.arms.get(arm)).size();
    }

    int reach(int arm) {
        if (noArm(arm)) return BAD;
        if (world.arms.get(arm).cutAt >= 1) return NOT;
        return (int) search(world.arms.get(arm)).keySet().stream().map(f -> f.get(f.size() - 1)).distinct().count();
    }

    int far(int arm, int x, int y) {
        if (noArm(arm) || !inSea(x, y)) return BAD;
        if (world.arms.get(arm).cutAt >= 1) return NOT;
        int best = NONE;
        for (Map.Entry<List<Integer>, Integer> e : search(world.arms.get(arm)).entrySet()) {
            List<Integer> f = e.getKey();
            if (f.get(f.size() - 1) == 8 * y + x && (best == NONE || e.getValue() < best)) best = e.getValue();
        }
        return best;
    }

    int fewest(int arm, int thing, int n, int what) {
        if (noArm(arm) || thing < 0 || thing >= world.things.size() || n < 1 || n > 20 || what < 0 || what > 4) return BAD;
        if (world.things.get(thing).how == 2) return NOT;
        for (int count = 1; count <= 4; count++) {
            for (int row = 0; row < Math.pow(4, count); row++) {
                int[] words = new int[count];
                for (int i = count - 1, rest = row; i >= 0; i--, rest /= 4) words[i] = rest % 4;
                if (!eaten(arm, thing, n, words)) continue;
                return what == 0 ? count : what <= count ? words[what - 1] : BAD;
            }
        }
        return NONE;
    }

    boolean eaten(int arm, int thing, int n, int[] words) {
        Model m = new Model();
        m.world = world.copy();
        for (int t = 0; t < n; t++) {
            m.world.arms.get(arm).word = words[Math.min(t / 2, words.length - 1)];
            m.tick();
        }
        return m.world.things.get(thing).how == 2;
    }

    int image(int n) {
        if (n != 0 && n != 1) return BAD;
        images[n] = world.copy();
        return 1;
    }

    int restore(int n) {
        if (n != 0 && n != 1) return BAD;
        if (images[n] == null) return NONE;
        world = images[n].copy();
        return 1;
    }

    // ---- sheets

    static int lane(Object row) { return row instanceof boolean[] ? 0 : row instanceof byte[] ? 1 : 2; }

    static int length(Object row) { return java.lang.reflect.Array.getLength(row); }

    static int get(Object row, int i) {
        if (row instanceof boolean[]) return ((boolean[]) row)[i] ? 1 : 0;
        return row instanceof byte[] ? ((byte[]) row)[i] : ((int[]) row)[i];
    }

    static void set(Object row, int i, int v) {
        if (row instanceof boolean[]) ((boolean[]) row)[i] = v != 0;
        else if (row instanceof byte[]) ((byte[]) row)[i] = (byte) v;
        else ((int[]) row)[i] = v;
    }

    int look(int sheet, int lane, long i, long n) {
        if (sheets[sheet] == null) return NULL;
        if (lane(sheets[sheet]) != lane) return CAST;
        return i < 0 || n < 0 || i + n > length(sheets[sheet]) ? INDEX : 0;
    }

    int film(int arm, int sheet, int lane, int i) {
        if (noArm(arm) || sheet < 0 || sheet > 3 || lane < 1 || lane > 2) return BAD;
        List<Integer> cells = cells(world.arms.get(arm));
        int refused = look(sheet, lane, i, cells.size());
        for (int k = 0; refused == 0 && k < cells.size(); k++) set(sheets[sheet], i + k, cells.get(k));
        return refused != 0 ? refused : cells.size();
    }

    int differs(int arm, int sheet, int lane, int i) {
        if (noArm(arm) || sheet < 0 || sheet > 3 || lane < 1 || lane > 2) return BAD;
        List<Integer> cells = cells(world.arms.get(arm));
        int refused = look(sheet, lane, i, cells.size());
        if (refused != 0) return refused;
        for (int k = 0; k < cells.size(); k++) if (cells.get(k) != get(sheets[sheet], i + k)) return k;
        return NONE;
    }

    int sheet(int sheet, int lane, int n) {
        if (sheet < 0 || sheet > 3 || lane < 0 || lane > 2 || n > 64) return BAD;
        if (n < 0) return SIZE;
        sheets[sheet] = lane == 0 ? new boolean[n] : lane == 1 ? new byte[n] : new int[n];
        return n;
    }

    int drop(int sheet) {
        if (sheet < 0 || sheet > 3) return BAD;
        if (sheets[sheet] == null) return NULL;
        int had = length(sheets[sheet]);
        sheets[sheet] = null;
        return had;
    }

    int item(int sheet, int lane, int i, int v) {
        if (sheet < 0 || sheet > 3 || lane < 0 || lane > 2) return BAD;
        int refused = look(sheet, lane, i, 1);
        if (refused != 0) return refused;
        set(sheets[sheet], i, v);
        return 1;
    }

    int copy(int from, int i, int to, int j, int n) {
        if (from < 0 || from > 3 || to < 0 || to > 3) return BAD;
        if (sheets[from] == null || sheets[to] == null) return NULL;
        if (lane(sheets[from]) != lane(sheets[to])) return CAST;
        if (look(from, lane(sheets[from]), i, n) != 0 || look(to, lane(sheets[to]), j, n) != 0) return INDEX;
        int[] taken = new int[n];
        for (int k = 0; k < n; k++) taken[k] = get(sheets[from], i + k);
        for (int k = 0; k < n; k++) set(sheets[to], j + k, taken[k]);
        return n;
    }

    @Override
    public String toString() {
        return "tape '" + tape + "', sheets " + Arrays.toString(sheets);
    }
}

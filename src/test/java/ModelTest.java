import java.util.ArrayList;
import java.util.List;
import java.util.Random;

/** Random runs, held against the model call by call; the seeds are fixed, so that a run can be told again. */
public final class ModelTest {
    private static final int RUNS = 400;
    private static final int CALLS = 512;
    private static final String[] TEXTS = {
        "x&!h:fg;h:p;w1:fo1;*:o0", "t0|t1:gp;h:po2;w0:f;w1&x:fo1;w2:d;*:s1", "h&w1:d;h:p;x:gf;w1:fo1;w2:fo2;w3:gpo3",
        "m0:s1f;m1:s2g;m2:ps3;*:d", "*:gpfo1", "!h&(t0|t1|t2):g;h:po1;!(w0|w1):fo2;x&w1:f;w1:fo1", "h:p;*:fg", "w1:fo1;w2:go2;w3:p o3",
    };
    private final Random random;
    private final ThinkingArms x = new ThinkingArms();
    private final Model m = new Model();
    private final List<String> told = new ArrayList<>();

    private ModelTest(long seed) { random = new Random(seed); }

    public static void main(String[] args) {
        int runs = args.length > 0 ? Integer.parseInt(args[0]) : RUNS;
        for (int run = 0; run < runs; run++) {
            if (!new ModelTest(run).passes(run)) {
                System.exit(1);
            }
        }
        int[] found = new int[5];
        for (int scene = 0; scene < runs; scene++) {
            if (!new ModelTest(1000000 + scene).sceneOfWords(scene, found)) {
                System.exit(1);
            }
        }
        System.out.println(runs + " random runs and scenes are as the model tells; words found: " + java.util.Arrays.toString(found));
        if (found[1] == 0 || found[2] == 0 || found[3] == 0 || found[4] == 0) {
            System.out.println("the scenes do not try every number of words");
            System.exit(1);
        }
    }

    /** Arms that do what the words say, things beside them, and the fewest words for each thing. */
    private boolean sceneOfWords(int scene, int[] found) {
        List<long[]> answers = new ArrayList<>();
        for (int c = 0; c < 4; c++) answers.add(call(2));
        for (int c = 0; c < 5; c++) answers.add(thingNear());
        for (int a = 0; a < m.world.arms.size(); a++) {
            String text = wordy();
            for (int from = 0; from < text.length(); from += 8) {
                int n = Math.min(8, text.length() - from);
                long w = Check.packed(text, from, n);
                answers.add(pair("type '" + text.substring(from, from + n) + "'", x.type(w, n), m.type(w, n)));
            }
            answers.add(pair("rules " + a, x.rules(a), m.rules(a)));
        }
        if (rare()) answers.add(call(12));
        if (rare()) answers.add(call(10));
        if (rare()) answers.add(call(14));
        for (int t = 0; t < m.world.things.size(); t++) {
            int a = anyArm(), n = 2 + random.nextInt(19);
            for (int what : new int[] {0, 1 + random.nextInt(4)}) {
                long[] both = pair("fewest " + a + " " + t + " " + n + " " + what, x.fewest(a, t, n, what), m.fewest(a, t, n, what));
                if (what == 0 && both[1] > 0) found[(int) both[1]]++;
                answers.add(both);
            }
        }
        for (int c = 0; c < 30; c++) answers.add(call(new int[] {4, 5, 12, 13, 15}[random.nextInt(5)]));
        for (int c = 0; c < answers.size(); c++) {
            if (answers.get(c)[0] != answers.get(c)[1]) {
                told.forEach(System.out::println);
                System.out.println("scene " + scene + " call " + c + ": " + told.get(c) + ", the model " + answers.get(c)[1]);
                return false;
            }
        }
        return true;
    }

    private long[] thingNear() {
        if (m.world.arms.isEmpty()) return call(3);
        List<Integer> cells = Model.cells(m.world.arms.get(random.nextInt(m.world.arms.size())));
        int cell = cells.get(cells.size() - 1);
        int u = cell % 8 + random.nextInt(3) - 1, v = cell / 8 + random.nextInt(3) - 1, w = random.nextInt(4);
        return pair("thing " + u + " " + v + " " + w, x.thing(u, v, w), m.thing(u, v, w));
    }

    private String wordy() {
        String[] claims = {"", "&x", "&!x", "&h", "&!h", "&!t0", "&m0", "&(x|h)"};
        String[] acts = {"f", "g", "p", "p", "d", "s1", "s0"};
        StringBuilder text = new StringBuilder();
        for (int c = 2 + random.nextInt(5); c > 0; c--) {
            int word = random.nextInt(4);
            text.append(text.length() > 0 ? ";" : "").append('w').append(word).append(claims[random.nextInt(claims.length)]).append(':');
            for (int k = random.nextInt(3); k > 0; k--) text.append(acts[random.nextInt(acts.length)]);
            text.append('o').append(random.nextInt(5) == 0 ? random.nextInt(4) : word);
        }
        return text.toString();
    }

    private boolean passes(int run) {
        boolean lively = run % 4 != 0;
        for (int c = 0; c < CALLS; c++) {
            long[] answers = lively && c < 40 ? begin(c) : call(random.nextInt(34));
            if (answers[0] != answers[1]) {
                int from = Math.max(0, told.size() - 40);
                told.subList(from, told.size()).forEach(System.out::println);
                System.out.println("run " + run + " call " + c + " answered " + answers[0] + ", the model " + answers[1]);
                return false;
            }
        }
        return true;
    }

    /** Ahead of free calls, what makes a run in which something happens. */
    private long[] begin(int c) {
        if (c < 6) return call(2);
        if (c < 14) return call(3);
        if (c < 18) return call(0);
        return call(c % 2 == 0 ? 30 : 31);
    }

    /** Mostly a number within the bounds, at times one about their edges, seldom a wild one. */
    private int num(int low, int high) {
        int kind = random.nextInt(40);
        if (kind == 0) return low - 1;
        if (kind == 1) return high + 1;
        if (kind == 2) return new int[] {Integer.MIN_VALUE, Integer.MAX_VALUE, -1, 0, 64, 63, 1000}[random.nextInt(7)];
        return low + random.nextInt(high - low + 1);
    }

    private int anyArm() { return num(0, Math.max(0, m.world.arms.size() - 1)); }

    private int anyPiece(int arm) {
        return num(0, m.noArm(arm) ? 6 : m.world.arms.get(arm).pieces.size() - 1);
    }

    private int anyThing() { return num(0, Math.max(0, m.world.things.size() - 1)); }

    private int laneOf(int sheet) {
        boolean known = sheet >= 0 && sheet < 4 && m.sheets[sheet] != null && random.nextInt(10) > 0;
        return known ? Model.lane(m.sheets[sheet]) : num(0, 2);
    }

    private long[] pair(String call, long got, long want) {
        told.add(call + " " + got);
        return new long[] {got, want};
    }

    private long[] call(int which) {
        int a = anyArm(), p = anyPiece(a), t = anyThing(), s = num(0, 3), u = num(0, 7), v = num(0, 7), w;
        switch (which) {
            case 0: { boolean is = random.nextInt(3) > 0; return pair("wall " + u + " " + v + " " + is, x.wall(u, v, is), m.wall(u, v, is)); }
            case 1: return pair("walls " + s, x.walls(s), m.walls(s));
            case 2: { int n = num(2, 7), f = num(0, (1 << 2 * (Math.max(2, Math.min(n, 7)) - 1)) - 1);
                if (random.nextInt(3) == 0) f = 0;
                return pair("arm " + u + " " + v + " " + n + " " + f, x.arm(u, v, n, f), m.arm(u, v, n, f)); }
            case 3: w = num(0, 3); return pair("thing " + u + " " + v + " " + w, x.thing(u, v, w), m.thing(u, v, w));
            case 4: w = num(0, 5); return pair("piece " + a + " " + p + " " + w, x.piece(a, p, w), m.piece(a, p, w));
            case 5: w = num(0, 3); return pair("told " + t + " " + w, x.told(t, w), m.told(t, w));
            case 6: return pair("form " + a, x.form(a), m.form(a));
            case 7: return pair("flip " + a + " " + p, x.flip(a, p), m.flip(a, p));
            case 8: return type(typed());
            case 9: return pair("rules " + a, x.rules(a), m.rules(a));
            case 10: w = num(0, 3); return pair("head " + a + " " + w, x.head(a, w), m.head(a, w));
            case 11: w = num(0, 3); return pair("skin " + w, x.skin(w), m.skin(w));
            case 12: w = random.nextInt(4) == 0 ? num(1, 60) : num(1, 3); return pair("ticks " + w, x.ticks(w), m.ticks(w));
            case 13: return pair("finds " + a + " " + p, x.finds(a, p), m.finds(a, p));
            case 14: if (random.nextInt(8) > 0) return call(12);
                return pair("cut " + a + " " + p, x.cut(a, p), m.cut(a, p));
            case 15: w = num(0, 6); return pair("count " + w, x.count(w), m.count(w));
            case 16: return rare() ? pair("forms " + a, x.forms(a), m.forms(a)) : call(7);
            case 17: return rare() ? pair("reach " + a, x.reach(a), m.reach(a)) : call(7);
            case 18: return rare() ? pair("far " + a + " " + u + " " + v, x.far(a, u, v), m.far(a, u, v)) : call(7);
            default: return more(which, a, t, s);
        }
    }

    private boolean rare() { return random.nextInt(4) == 0; }

    private long[] more(int which, int a, int t, int s) {
        int w, i, j, n, k = num(0, 3);
        switch (which) {
            case 19: if (random.nextInt(6) > 0) return call(12);
                n = num(1, 20);
                w = num(0, 4);
                return pair("fewest " + a + " " + t + " " + n + " " + w, x.fewest(a, t, n, w), m.fewest(a, t, n, w));
            case 20: w = num(0, 1); return pair("image " + w, x.image(w), m.image(w));
            case 21: w = num(0, 1); return pair("restore " + w, x.restore(w), m.restore(w));
            case 22: w = laneOf(s); i = num(0, 5); return pair("film " + a + " " + s + " " + w + " " + i, x.film(a, s, w, i), m.film(a, s, w, i));
            case 23: w = laneOf(s); i = num(0, 5); return pair("differs " + a + " " + s + " " + w + " " + i, x.differs(a, s, w, i), m.differs(a, s, w, i));
            case 24: w = num(0, 2); n = random.nextBoolean() ? 64 : num(0, 64); return pair("sheet " + s + " " + w + " " + n, x.sheet(s, w, n), m.sheet(s, w, n));
            case 25: return rare() ? pair("drop " + s, x.drop(s), m.drop(s)) : call(24);
            case 26: w = laneOf(s); i = num(0, 63); n = num(-300, 300);
                return pair("item " + s + " " + w + " " + i + " " + n, x.item(s, w, i, n), m.item(s, w, i, n));
            case 27: i = num(0, 30); j = num(0, 30); n = num(0, 30);
                return pair("copy " + s + " " + i + " " + k + " " + j + " " + n, x.copy(s, i, k, j, n), m.copy(s, i, k, j, n));
            case 30: return type(nextOfText());
            case 31: return m.tape.isEmpty() || !pending.isEmpty() ? type(nextOfText()) : call(9);
            case 32: return rare() ? call(3) : call(12);
            default: return call(random.nextInt(2) == 0 ? 4 : 5);
        }
    }

    private String pending = "";

    private String nextOfText() {
        if (pending.isEmpty()) {
            pending = random.nextInt(3) == 0 ? grown() : TEXTS[random.nextInt(TEXTS.length)];
        }
        int n = Math.min(8, pending.length());
        String now = pending.substring(0, n);
        pending = pending.substring(n);
        return now;
    }

    private String typed() {
        String signs = "wtmhx*()!&|:;fgpdso0123 456z";
        StringBuilder text = new StringBuilder();
        for (int k = num(1, 3); k > 0 && text.length() < 8; k--) text.append(signs.charAt(random.nextInt(signs.length())));
        return text.toString();
    }

    private long[] type(String text) {
        int n = text.length();
        long w = Check.packed(text, 0, n);
        if (n > 0 && random.nextInt(60) == 0) w ^= 128;
        if (random.nextInt(60) == 0) n = num(1, 8);
        return pair("type '" + text + "' " + n, x.type(w, n), m.type(w, n));
    }

    /** A text that is mostly right, at times with one sign put amiss. */
    private String grown() {
        StringBuilder text = new StringBuilder();
        for (int c = 1 + random.nextInt(4); c > 0; c--) {
            if (text.length() > 0) text.append(';');
            text.append(test(0)).append(':');
            for (int k = 1 + random.nextInt(4); k > 0; k--) text.append(new String[] {"f", "g", "p", "d", "s", "o"}[random.nextInt(6)]).append("%");
        }
        StringBuilder whole = new StringBuilder();
        for (int k = 0; k < text.length(); k++) {
            char c = text.charAt(k);
            boolean digit = k > 0 && "so".indexOf(text.charAt(k - 1)) >= 0;
            if (c != '%') whole.append(c);
            else if (digit) whole.append(random.nextInt(4));
        }
        if (random.nextInt(5) == 0) whole.setCharAt(random.nextInt(whole.length()), "wtmhx*()!&|:;fgpdso0123 4".charAt(random.nextInt(25)));
        if (whole.length() > 96) whole.setLength(96);
        return whole.toString();
    }

    private String test(int open) {
        StringBuilder test = new StringBuilder();
        for (int k = 1 + random.nextInt(3) * random.nextInt(2); k > 0; k--) {
            if (random.nextInt(4) == 0) test.append('!');
            int kind = random.nextInt(8);
            if (kind < 3) test.append("wtm".charAt(kind)).append(random.nextInt(4));
            else if (kind < 6) test.append("hx*".charAt(kind - 3));
            else if (open < 5) test.append('(').append(test(open + 1)).append(')');
            else test.append('h');
            if (k > 1) test.append(random.nextBoolean() ? '&' : '|');
            if (random.nextInt(10) == 0) test.append(' ');
        }
        return test.toString();
    }
}

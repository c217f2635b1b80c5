/** What the tests of the project share: a tally of answers that are not the ones due. */
final class Check {
    private static int asked = 0;
    private static int wrong = 0;

    private Check() { }

    static void due(String call, long got, long want) {
        asked++;
        if (got != want) {
            wrong++;
            System.out.println(call + " answered " + got + ", due is " + want);
        }
    }

    static void holds(String what, boolean is) {
        due(what, is ? 1 : 0, 1);
    }

    static void end() {
        System.out.println((asked - wrong) + " of " + asked + " answers are as due");
        if (wrong != 0) {
            System.exit(1);
        }
    }

    /** Types a text, in calls of up to 8 bytes: what the last call answered. */
    static int type(ThinkingArms x, String text) {
        int answer = 0;
        for (int from = 0; from < text.length(); from += 8) {
            int n = Math.min(8, text.length() - from);
            answer = x.type(packed(text, from, n), n);
        }
        return answer;
    }

    static int rules(ThinkingArms x, int arm, String text) {
        type(x, text);
        return x.rules(arm);
    }

    static long packed(String text, int from, int n) {
        long w = 0;
        for (int k = 0; k < n; k++) {
            w = w << 8 | text.charAt(from + k);
        }
        return w;
    }
}

import java.util.function.BiConsumer;

/** What the tests by hand share: answers held against those that are due, and stores to begin with. */
class Check {
    static final int NONE = RingKeeper.NONE;
    static final int MIN = Integer.MIN_VALUE;
    static final int MAX = Integer.MAX_VALUE;
    private static int wrong = 0;
    private static int edges = 0;
    private static String part = "";

    interface Step { void run(); }

    /** What is held to be due from here on belongs to this part of the document. */
    static void at(String name) {
        part = name;
    }

    /** A boundary case, under the document's own words for it. */
    static void edge(String words, Step step) {
        String before = part;
        at(before + ", \"" + words + "\"");
        edges++;
        try {
            step.run();
        } catch (RuntimeException e) {
            fail("threw " + e);
        }
        at(before);
    }

    static void fail(String what) {
        wrong++;
        System.out.println(part + ": " + what);
    }

    /** The last step of a test: its exit code tells whether an answer was wrong. */
    static void end() {
        if (edges > 0) System.out.println(edges + " edges");
        System.out.println(wrong == 0 ? "all answers are as due" : wrong + " answers are not as due");
        if (wrong != 0) System.exit(1);
    }

    static void due(String call, long got, long want) {
        if (got != want) fail(call + " answered " + got + ", due is " + want);
    }

    static void dueThrow(String call, String want, Step step) {
        String got = "nothing";
        try {
            step.run();
        } catch (RuntimeException e) {
            got = e.getClass().getSimpleName();
        }
        if (!got.equals(want)) fail(call + " threw " + got + ", due is " + want);
    }

    /** Throws, and changes nothing that can be told. */
    static void dueThrowAlone(RingKeeper x, String call, String want, Step step) {
        String before = state(x);
        dueThrow(call, want, step);
        dueSame(call, before, state(x));
    }

    static void dueSame(String call, String before, String after) {
        if (!before.equals(after)) fail(call + " changed\n  " + before + "\ninto\n  " + after);
    }

    static void dueTold(RingKeeper x, int t, int... want) {
        for (int what = 0; what < want.length; what++) due("told(" + t + ", " + what + ")", x.told(t, what), want[what]);
    }

    static void dueWhy(RingKeeper x, int... want) {
        for (int what = 0; what < want.length; what++) due("why(" + what + ")", x.why(what), want[what]);
    }

    static void dueRows(RingKeeper x, long... keysAndValues) {
        int n = keysAndValues.length / 2;
        for (int i = 0; i < n; i++) {
            due("rowKey(" + i + ")", x.rowKey(i), keysAndValues[2 * i]);
            due("rowValue(" + i + ")", x.rowValue(i), keysAndValues[2 * i + 1]);
        }
        dueThrow("rowKey(" + n + ")", "NoSuchElementException", () -> x.rowKey(n));
        dueThrow("rowValue(" + n + ")", "NoSuchElementException", () -> x.rowValue(n));
    }

    static void dueFound(RingKeeper x, int key, long value) {
        due("key()", x.key(), key);
        due("value()", x.value(), value);
    }

    /** What every call that lists IllegalStateException does with numbers that are not ACTIVE. */
    static void dueOnlyActive(String call, BiConsumer<RingKeeper, Integer> step) {
        RingKeeper x = with(1);
        x.abort(x.begin(false));
        x.begin(true);
        for (int t : new int[] {MIN, -1, 0, 1, 2, 4, MAX}) {
            dueThrow(call + " of " + t, "IllegalStateException", () -> step.accept(x, t));
        }
        due("count(0)", x.count(0), 3);
        due("told(3, 6)", x.told(3, 6), 0);
    }

    /** One transaction that writes each key with ten times the key as its value. */
    static RingKeeper with(int... keys) {
        RingKeeper x = new RingKeeper();
        put(x, keys);
        return x;
    }

    static int put(RingKeeper x, int... keys) {
        int t = x.begin(false);
        for (int key : keys) x.write(t, key, key * 10L);
        due("commit", x.commit(t), 0);
        return t;
    }

    static int drop(RingKeeper x, int key) {
        int t = x.begin(false);
        x.remove(t, key);
        due("commit", x.commit(t), 0);
        return t;
    }

    /** 1 only holds the HORIZON at 0, so that all that comes behind it is KEPT; it is SAFE at once. */
    static RingKeeper held() {
        RingKeeper x = new RingKeeper();
        x.begin(true);
        return x;
    }

    /** 1 began first, 2 reads 1 and writes 2 and 6, 3 writes 1 and commits: OUT of 2 is 3's moment, 1. */
    static RingKeeper withPivot() {
        RingKeeper x = new RingKeeper();
        x.begin(false);
        x.begin(false);
        x.begin(false);
        x.read(2, 1);
        x.write(2, 2, 20);
        x.write(2, 6, 60);
        x.write(3, 1, 10);
        due("commit(3)", x.commit(3), 0);
        return x;
    }

    /** withPivot(), and 2 has committed too: whoever has START 0 MAY NOT look at 2 or 6. */
    static RingKeeper withTrap() {
        RingKeeper x = withPivot();
        due("commit(2)", x.commit(2), 0);
        return x;
    }

    /** All that the object tells; only of keys -1 .. 9, so that it takes few of the 512 calls. */
    static String state(RingKeeper x) {
        StringBuilder text = new StringBuilder();
        for (int what = 0; what <= 11; what++) text.append(x.count(what)).append(' ');
        text.append("| found ").append(x.key()).append('=').append(x.value()).append(" | rows");
        for (int i = 0; hasRow(x, i); i++) text.append(' ').append(x.rowKey(i)).append('=').append(x.rowValue(i));
        text.append(" | why");
        for (int what = 0; what <= 3; what++) text.append(' ').append(x.why(what));
        for (int t = 1; t <= x.count(0); t++) {
            text.append(" | told ").append(t);
            for (int what = 0; what <= 8; what++) text.append(' ').append(x.told(t, what));
        }
        for (int key = -1; key <= 9; key++) {
            for (int i = 0; x.version(key, i, 0) != NONE; i++) {
                text.append(" | ").append(key).append('@').append(x.version(key, i, 0)).append('=');
                text.append(x.version(key, i, 1) == 1 ? "" + x.versionValue(key, i) : "nothing");
            }
        }
        return text.toString();
    }

    private static boolean hasRow(RingKeeper x, int i) {
        try {
            x.rowKey(i);
            return true;
        } catch (java.util.NoSuchElementException e) {
            return false;
        }
    }
}

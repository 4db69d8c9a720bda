/** The boundary cases of the document's "Terms", each sentence with a test of its own. */
public final class TermsEdgesTest extends Check {
    private static void dueEnded(RingKeeper x, int t, int state) {
        due("told(" + t + ", 0)", x.told(t, 0), state);
        Step[] calls = {
            () -> x.read(t, 1), () -> x.near(t, 1, true), () -> x.scan(t, 1, 2, 3), () -> x.write(t, 1, 1),
            () -> x.remove(t, 1), () -> x.save(t), () -> x.undo(t, 1), () -> x.commit(t), () -> x.abort(t),
        };
        for (Step call : calls) dueThrowAlone(x, "a call of one that has ended", "IllegalStateException", call);
    }

    private static RingKeeper inConflict() {
        RingKeeper x = new RingKeeper();
        x.begin(false);
        put(x, 1);
        x.write(1, 1, 5);
        return x;
    }

    private static void transactions() {
        at("TRANSACTIONS");
        edge("have numbers 1, 2, .. as they begin", () -> {
            RingKeeper x = new RingKeeper();
            due("the first", x.begin(false), 1);
            due("the second", x.begin(true), 2);
            x.abort(2);
            due("behind one given up", x.begin(false), 3);
            x.commit(1);
            due("behind one committed", x.begin(true), 4);
        });
        edge("ACTIVE from begin() on", () -> {
            RingKeeper x = new RingKeeper();
            dueTold(x, 1, NONE);
            x.begin(false);
            dueTold(x, 1, 1);
            dueTold(x, 2, NONE);
        });
        edge("till it is COMMITTED", () -> {
            RingKeeper x = with(1);
            dueEnded(x, 1, 2);
        });
        edge("ABORTED: given up", () -> {
            RingKeeper x = new RingKeeper();
            x.begin(false);
            x.abort(1);
            dueEnded(x, 1, 3);
        });
        edge("ABORTED: by a WRITE CONFLICT", () -> {
            RingKeeper x = inConflict();
            due("commit", x.commit(1), 1);
            dueEnded(x, 1, 4);
        });
        edge("ABORTED: by a DANGER (a commit)", () -> {
            RingKeeper x = withPivot();
            x.read(1, 2);
            due("commit", x.commit(2), 2);
            dueEnded(x, 2, 5);
            due("the one ahead of it goes on", x.told(1, 0), 1);
        });
        edge("ABORTED: by a DANGER (a looking)", () -> {
            RingKeeper x = withTrap();
            due("read", x.read(1, 2), NONE);
            dueEnded(x, 1, 5);
        });
        edge("At most 24 are ACTIVE", () -> {
            RingKeeper x = new RingKeeper();
            for (int t = 1; t <= 24; t++) due("begin", x.begin(t == 24), t);
            due("the 25th", x.begin(false), NONE);
            due("count(1)", x.count(1), 24);
        });
        roomAgain("commit", new RingKeeper(), x -> x.begin(false), x -> x.commit(1));
        roomAgain("abort", new RingKeeper(), x -> x.begin(true), x -> x.abort(1));
        roomAgain("write conflict", inConflict(), x -> { }, x -> x.commit(1));
        roomAgain("danger of a commit", withPivot(), x -> x.read(1, 2), x -> x.commit(2));
        roomAgain("danger of a looking", withTrap(), x -> { }, x -> x.read(1, 2));
        edge("KEYS are ints, values longs", () -> {
            for (int key : new int[] {MIN, MIN + 1, -1, 0, 1, MAX - 1, MAX}) {
                for (long value : new long[] {Long.MIN_VALUE, -1, 0, 1, 1L << 32, Long.MAX_VALUE}) farValue(key, value);
            }
        });
    }

    private static void roomAgain(String how, RingKeeper x, java.util.function.Consumer<RingKeeper> first,
            java.util.function.Consumer<RingKeeper> ending) {
        edge("At most 24 are ACTIVE (room again behind a " + how + ")", () -> {
            first.accept(x);
            for (int i = 0; i < 24; i++) x.begin(false);
            due("count(1)", x.count(1), 24);
            due("begin", x.begin(false), NONE);
            ending.accept(x);
            due("count(1)", x.count(1), 23);
            due("begin takes the next number", x.begin(false), x.count(0));
            due("begin", x.begin(false), NONE);
        });
    }

    private static void farValue(int key, long value) {
        RingKeeper x = new RingKeeper();
        x.begin(false);
        x.write(1, key, value);
        due("read own", x.read(1, key), 1);
        dueFound(x, key, value);
        x.commit(1);
        x.begin(false);
        due("near up", x.near(2, key, true), 1);
        dueFound(x, key, value);
        due("near down", x.near(2, key, false), 1);
        due("read", x.read(2, key), 1);
        dueFound(x, key, value);
        due("scan", x.scan(2, key, key, 1), 1);
        dueRows(x, key, value);
        due("versionValue", x.versionValue(key, 0), value);
    }

    private static void moments() {
        at("MOMENTS");
        edge("the commits have 1, 2, .. in their order", () -> {
            RingKeeper x = held();
            x.begin(false);
            x.begin(true);
            x.begin(false);
            x.write(4, 1, 1);
            x.commit(4);
            x.commit(3);
            x.commit(2);
            due("of the one that wrote", x.told(4, 2), 1);
            due("of the READ-ONLY one", x.told(3, 2), 2);
            due("of the one that wrote nothing", x.told(2, 2), 3);
            due("latest", x.count(11), 3);
        });
        edge("the commits have 1, 2, .. (a refused one has none)", () -> {
            RingKeeper x = inConflict();
            x.commit(1);
            due("behind a conflict", x.count(11), 1);
            RingKeeper y = withPivot();
            y.read(1, 2);
            y.commit(2);
            due("behind a danger", y.count(11), 1);
            y.abort(1);
            due("behind an abort", y.count(11), 1);
        });
        edge("START is the latest moment ahead of its begin(), 0 if there was none", () -> {
            RingKeeper x = new RingKeeper();
            x.begin(false);
            due("ahead of all commits", x.told(1, 1), 0);
            put(x, 1);
            due("stays", x.told(1, 1), 0);
            x.begin(false);
            due("behind the first commit", x.told(3, 1), 1);
            x.abort(1);
            x.begin(true);
            due("behind an abort", x.told(4, 1), 1);
            x.commit(4);
            x.begin(true);
            due("behind the second commit", x.told(5, 1), 2);
        });
    }

    private static void concurrent() {
        at("CONCURRENT");
        edge("START of each is below the other's moment (the looker's START)", () -> {
            RingKeeper x = held();
            int ahead = x.begin(false);
            int b = put(x, 1);
            int behind = x.begin(false);
            x.read(behind, 1);
            due("START is the moment: OUT", x.told(behind, 3), 0);
            due("START is the moment: preceded", x.told(b, 4), 0);
            x.read(ahead, 1);
            due("START is 1 below: OUT", x.told(ahead, 3), 1);
            due("START is 1 below: preceded", x.told(b, 4), 1);
        });
        edge("START of each is below the other's moment (the writer's START)", () -> {
            RingKeeper x = held();
            int a = x.begin(false);
            x.read(a, 1);
            x.read(a, 2);
            int below = x.begin(false);
            x.commit(a);
            int behind = x.begin(false);
            due("START of the one behind", x.told(behind, 1), x.told(a, 2));
            x.write(behind, 1, 1);
            x.commit(behind);
            due("START is the moment", x.told(behind, 4), 0);
            x.write(below, 2, 2);
            x.commit(below);
            due("START is 1 below", x.told(below, 4), 1);
        });
        edge("which has no end for one that is ACTIVE", () -> {
            RingKeeper x = new RingKeeper();
            x.begin(false);
            x.read(1, 7);
            for (int key = 100; key < 110; key++) put(x, key);
            int late = put(x, 7);
            due("START of the late one", x.told(late, 1), 10);
            due("OUT", x.told(1, 3), 11);
            due("preceded", x.told(late, 4), 1);
        });
        edge("neither is ABORTED (given up)", () -> {
            RingKeeper x = withPivot();
            x.read(1, 2);
            x.abort(1);
            due("commit", x.commit(2), 0);
        });
        edge("neither is ABORTED (by a WRITE CONFLICT)", () -> {
            RingKeeper x = withPivot();
            x.read(1, 2);
            x.write(1, 1, 5);
            due("commit", x.commit(1), 1);
            due("commit", x.commit(2), 0);
        });
        edge("neither is ABORTED (by a DANGER)", () -> {
            RingKeeper x = withPivot();
            x.read(1, 2);
            x.read(1, 1);
            x.write(1, 8, 80);
            int looker = x.begin(false);
            x.read(looker, 8);
            due("commit", x.commit(1), 2);
            due("commit", x.commit(2), 0);
        });
    }

    private static void versions() {
        at("VERSION");
        edge("A transaction WRITES a value, or NOTHING, .. till it commits that is its own", () -> {
            RingKeeper x = held();
            int t = x.begin(false);
            x.write(t, 1, 5);
            x.remove(t, 2);
            due("versions", x.count(8), 0);
            due("read of another", x.read(x.begin(false), 1), 0);
            x.commit(t);
            due("versions", x.count(8), 2);
            due("read of one that began behind", x.read(x.begin(false), 1), 1);
        });
        edge("the last write of each key that it WROTE", () -> {
            RingKeeper x = held();
            int t = x.begin(false);
            x.write(t, 1, 5);
            x.remove(t, 1);
            x.write(t, 1, 7);
            x.write(t, 2, 8);
            x.remove(t, 2);
            x.commit(t);
            due("versions", x.count(8), 2);
            due("versionValue", x.versionValue(1, 0), 7);
            due("is a value", x.version(1, 0, 1), 1);
            due("is NOTHING", x.version(2, 0, 1), 0);
        });
        edge("with this moment", () -> {
            RingKeeper x = held();
            int t = x.begin(false);
            x.write(t, 1, 5);
            put(x, 2);
            x.commit(t);
            due("moment", x.version(1, 0, 0), 2);
            due("moment of the other", x.version(2, 0, 0), 1);
        });
        edge("that was not undone", () -> {
            RingKeeper x = held();
            int t = x.begin(false);
            x.write(t, 1, 5);
            x.save(t);
            x.write(t, 1, 6);
            x.remove(t, 1);
            x.write(t, 2, 7);
            x.remove(t, 3);
            x.undo(t, 1);
            x.commit(t);
            due("versions", x.count(8), 1);
            due("versionValue", x.versionValue(1, 0), 5);
        });
        edge("Ahead of all versions each key has NOTHING", () -> {
            RingKeeper x = new RingKeeper();
            x.begin(false);
            put(x, 1);
            due("read", x.read(1, 1), 0);
            due("near", x.near(1, 0, true), 0);
            due("scan", x.scan(1, MIN, MAX, 1), 0);
        });
    }

    private static void sees() {
        at("SEES");
        edge("its own last write", () -> {
            RingKeeper x = with(1);
            x.begin(false);
            x.write(2, 1, 5);
            x.write(2, 1, 6);
            x.read(2, 1);
            dueFound(x, 1, 6);
            x.remove(2, 1);
            due("its own NOTHING", x.read(2, 1), 0);
            x.write(2, 1, 7);
            due("a value again", x.read(2, 1), 1);
            dueFound(x, 1, 7);
        });
        edge("own last write (that was not undone)", () -> {
            RingKeeper x = with(1);
            x.begin(false);
            x.save(2);
            x.write(2, 1, 5);
            x.save(2);
            x.remove(2, 1);
            due("read", x.read(2, 1), 0);
            x.undo(2, 2);
            x.read(2, 1);
            dueFound(x, 1, 5);
            x.undo(2, 1);
            x.read(2, 1);
            dueFound(x, 1, 10);
        });
        edge("the version with the greatest moment not above its START", () -> {
            RingKeeper x = new RingKeeper();
            int[] readers = new int[4];
            for (int m = 0; m <= 3; m++) {
                readers[m] = x.begin(true);
                int w = x.begin(false);
                x.write(w, 1, m + 1);
                x.commit(w);
            }
            due("START 0", x.read(readers[0], 1), 0);
            for (int m = 1; m <= 3; m++) {
                due("START " + m, x.read(readers[m], 1), 1);
                dueFound(x, 1, m);
            }
        });
        edge("the version .. not above its START (of NOTHING)", () -> {
            RingKeeper x = with(1);
            int before = x.begin(true);
            drop(x, 1);
            int behind = x.begin(true);
            put(x, 1);
            due("read ahead of it", x.read(before, 1), 1);
            due("read behind it", x.read(behind, 1), 0);
        });
        edge("else NOTHING", () -> {
            RingKeeper x = with(1, 3);
            x.begin(false);
            for (int key : new int[] {MIN, 0, 2, 4, MAX}) due("read " + key, x.read(2, key), 0);
        });
    }

    private static void dueRuns(RingKeeper x, int want) {
        due("RUNS", x.told(1, 6), want);
        due("RUNS of all", x.count(7), want);
    }

    private static RingKeeper looker(int... keys) {
        RingKeeper x = new RingKeeper();
        x.begin(false);
        for (int key : keys) x.read(1, key);
        return x;
    }

    private static void runs() {
        at("RUNS");
        edge("how many rows of READ KEYS there are (none)", () -> dueRuns(looker(), 0));
        edge("how many rows of READ KEYS there are (one, looked at twice)", () -> dueRuns(looker(5, 5), 1));
        edge("every key is 1 more than the one ahead of it", () -> {
            dueRuns(looker(5, 6), 1);
            dueRuns(looker(6, 5), 1);
            dueRuns(looker(-1, 0), 1);
            dueRuns(looker(MAX - 1, MAX), 1);
            dueRuns(looker(MIN + 1, MIN), 1);
        });
        edge("every key is 1 more (2 more is another row)", () -> {
            dueRuns(looker(5, 7), 2);
            dueRuns(looker(7, 5), 2);
            dueRuns(looker(MAX - 2, MAX), 2);
            dueRuns(looker(MIN, MIN + 2), 2);
        });
        edge("each as long as it can be (a gap is closed)", () -> {
            dueRuns(looker(5, 7, 6), 1);
            dueRuns(looker(1, 3, 5, 7, 6), 3);
        });
        edge("every key is 1 more (the ends of the ints are not next to one another)", () -> {
            dueRuns(looker(MAX, MIN), 2);
            dueRuns(looker(MIN, MAX), 2);
        });
        edge("each as long as it can be (all ints)", () -> {
            RingKeeper x = looker(3, 5, MAX, MIN);
            x.scan(1, MIN, MAX, 100);
            dueRuns(x, 1);
            x.read(1, 0);
            x.near(1, MAX, true);
            x.near(1, MIN, false);
            dueRuns(x, 1);
        });
        edge("each as long as it can be (spans that meet, overlap, lie within)", () -> {
            RingKeeper x = looker();
            x.scan(1, 10, 20, 100);
            x.scan(1, 21, 30, 100);
            dueRuns(x, 1);
            x.scan(1, 32, 40, 100);
            dueRuns(x, 2);
            x.scan(1, 15, 25, 100);
            dueRuns(x, 2);
            x.scan(1, 5, 12, 100);
            dueRuns(x, 2);
            x.scan(1, 38, 50, 100);
            dueRuns(x, 2);
            x.scan(1, 31, 31, 100);
            dueRuns(x, 1);
        });
        edge("how many rows of READ KEYS there are (many)", () -> {
            RingKeeper x = new RingKeeper();
            x.begin(false);
            for (int i = 100; i >= 1; i--) x.read(1, 2 * i);
            dueRuns(x, 100);
            x.scan(1, 51, 149, 100);
            // 50 and 150 lie next to it.
            dueRuns(x, 100 - 51 + 1);
            x.scan(1, 0, 300, 100);
            dueRuns(x, 1);
        });
        edge("these are READ KEYS of their transaction", () -> {
            RingKeeper x = looker(5);
            int other = x.begin(false);
            x.read(other, 6);
            x.read(other, 8);
            due("RUNS of the first", x.told(1, 6), 1);
            due("RUNS of the other", x.told(other, 6), 2);
            due("RUNS of all", x.count(7), 3);
        });
    }

    private static void precedes() {
        at("PRECEDES");
        edge("not the same one", () -> {
            RingKeeper x = held();
            int t = x.begin(false);
            x.read(t, 1);
            x.scan(t, 0, 9, 9);
            x.write(t, 1, 1);
            due("commit", x.commit(t), 0);
            due("OUT", x.told(t, 3), 0);
            due("preceded", x.told(t, 4), 0);
        });
        edge("not the same one (with an OUT of its own)", () -> {
            RingKeeper x = withPivot();
            x.read(2, 2);
            x.scan(2, 2, 6, 9);
            due("commit", x.commit(2), 0);
        });
        edge("B is COMMITTED", () -> {
            RingKeeper x = new RingKeeper();
            x.begin(false);
            x.begin(false);
            x.read(1, 1);
            x.write(2, 1, 1);
            due("OUT", x.told(1, 3), 0);
            due("preceded", x.told(2, 4), 0);
            x.commit(2);
            due("OUT", x.told(1, 3), 1);
            due("preceded", x.told(2, 4), 1);
        });
        edge("B is COMMITTED (one given up is not)", () -> {
            RingKeeper x = new RingKeeper();
            x.begin(false);
            x.begin(false);
            x.read(1, 1);
            x.write(2, 1, 1);
            x.abort(2);
            x.read(1, 1);
            due("OUT", x.told(1, 3), 0);
        });
        edge("a key that B WROTE (one undone is none)", () -> {
            RingKeeper x = new RingKeeper();
            x.begin(false);
            x.begin(false);
            x.read(1, 1);
            x.save(2);
            x.write(2, 1, 1);
            x.undo(2, 1);
            x.write(2, 2, 2);
            x.commit(2);
            x.read(1, 1);
            due("OUT", x.told(1, 3), 0);
            due("preceded", x.told(2, 4), 0);
            x.read(1, 2);
            due("OUT", x.told(1, 3), 1);
        });
        edge("a key that B WROTE (NOTHING too)", () -> {
            RingKeeper x = with(1);
            int a = x.begin(false);
            x.read(a, 1);
            drop(x, 1);
            due("OUT", x.told(a, 3), 2);
        });
        edge("a key .. among the READ KEYS of A", () -> {
            RingKeeper x = new RingKeeper();
            x.begin(false);
            x.write(1, 1, 1);
            x.read(1, 1);
            x.read(1, 3);
            put(x, 1);
            put(x, 2);
            put(x, 4);
            due("OUT", x.told(1, 3), 0);
            put(x, 3);
            due("OUT", x.told(1, 3), 4);
        });
    }

    private static void out() {
        at("OUT");
        edge("the least moment of all that it PRECEDES", () -> {
            RingKeeper x = new RingKeeper();
            x.begin(false);
            x.begin(false);
            x.read(1, 2);
            x.read(1, 1);
            put(x, 1);
            put(x, 2);
            due("OUT, looked ahead of the commits", x.told(1, 3), 1);
            x.read(2, 2);
            due("OUT, the later first", x.told(2, 3), 2);
            x.read(2, 1);
            due("OUT, then the earlier", x.told(2, 3), 1);
            x.read(2, 2);
            due("OUT, the later anew", x.told(2, 3), 1);
        });
        edge("the least moment (of several versions of a key)", () -> {
            RingKeeper x = with(1);
            x.begin(false);
            for (int i = 0; i < 3; i++) put(x, 1);
            x.read(2, 1);
            due("OUT", x.told(2, 3), 2);
        });
        edge("that is below its own moment", () -> {
            RingKeeper x = held();
            x.begin(false);
            x.begin(false);
            x.read(2, 1);
            x.commit(2);
            x.write(3, 1, 1);
            x.commit(3);
            due("preceded", x.told(3, 4), 1);
            due("OUT", x.told(2, 3), 0);
        });
        edge("0 if there is none", () -> {
            RingKeeper x = new RingKeeper();
            x.begin(false);
            due("OUT without lookings", x.told(1, 3), 0);
            x.read(1, 1);
            put(x, 2);
            due("OUT", x.told(1, 3), 0);
        });
    }

    /** A looks at 2; the writer of 1 and A commit in this order or the other; then B, who read 1, writes 2. */
    private static int commitBehind(boolean aReadOnly, String order) {
        RingKeeper x = new RingKeeper();
        int b = x.begin(false);
        int c = x.begin(false);
        x.read(b, 1);
        x.write(c, 1, 10);
        x.write(b, 2, 20);
        int a = 0;
        for (char step : order.toCharArray()) {
            if (step == 'b') a = x.begin(aReadOnly);
            if (step == 'r') x.read(a, 2);
            if (step == 'a') due("commit of A", x.commit(a), 0);
            if (step == 'c') due("commit of C", x.commit(c), 0);
        }
        int answer = x.commit(b);
        if (answer == 2) dueWhy(x, 2, a, b, c);
        return answer;
    }

    private static void mayNotPrecede() {
        at("MAY NOT PRECEDE");
        edge("OUT of B is not 0 (it is)", () -> {
            RingKeeper x = new RingKeeper();
            x.begin(false);
            x.read(1, 2);
            put(x, 2);
            due("looking anew", x.read(1, 2), 0);
            due("state", x.told(1, 0), 1);
        });
        edge("A being READ-WRITE, is not above A's moment (ACTIVE)", () ->
            due("commit of B", commitBehind(false, "brc"), 2));
        edge("A being READ-WRITE, is not above A's moment (ACTIVE, began behind OUT)", () ->
            due("commit of B", commitBehind(false, "cbr"), 2));
        edge("A being READ-WRITE, is not above A's moment (1 below it)", () ->
            due("commit of B", commitBehind(false, "brca"), 2));
        edge("A being READ-WRITE, is not above A's moment (the same)", () -> {
            RingKeeper x = new RingKeeper();
            x.begin(false);
            x.begin(false);
            x.read(1, 1);
            x.read(2, 2);
            x.write(1, 2, 1);
            x.write(2, 1, 1);
            due("commit", x.commit(1), 0);
            due("OUT", x.told(2, 3), 1);
            due("commit of B", x.commit(2), 2);
            dueWhy(x, 2, 1, 2, 1);
        });
        edge("A being READ-WRITE, is not above A's moment (1 above it)", () ->
            due("commit of B", commitBehind(false, "brac"), 0));
        edge("A being READ-ONLY, is not above A's START (the same)", () ->
            due("commit of B", commitBehind(true, "cbr"), 2));
        edge("A being READ-ONLY, is not above A's START (the same, A COMMITTED)", () ->
            due("commit of B", commitBehind(true, "cbra"), 2));
        edge("A being READ-ONLY, is not above A's START (1 above it)", () ->
            due("commit of B", commitBehind(true, "brc"), 0));
        edge("A being READ-ONLY, is not above A's START (1 above it, A COMMITTED behind OUT)", () ->
            due("commit of B", commitBehind(true, "brca"), 0));
    }

    /** As withTrap(), with 4 that began ahead of the first commit (START 0) or behind it (START 1). */
    private static RingKeeper trapFor(boolean readOnly, int start) {
        RingKeeper x = new RingKeeper();
        for (int i = 0; i < 3; i++) x.begin(false);
        if (start == 0) x.begin(readOnly);
        x.read(2, 1);
        x.write(2, 2, 20);
        x.write(3, 1, 10);
        due("commit(3)", x.commit(3), 0);
        if (start == 1) x.begin(readOnly);
        due("commit(2)", x.commit(2), 0);
        due("START", x.told(4, 1), start);
        return x;
    }

    private static void danger() {
        at("DANGER");
        edge("a commit of B is refused (B is ABORTED)", () -> {
            RingKeeper x = withPivot();
            x.read(1, 6);
            due("commit", x.commit(2), 2);
            dueTold(x, 2, 5, NONE, NONE, NONE);
            dueTold(x, 1, 1, 0, 0, 0);
            due("version", x.version(2, 0, 0), NONE);
            due("nothing is seen", x.near(x.begin(false), 2, true), 0);
        });
        edge("if there is an A that would PRECEDE it (none does)", () -> {
            RingKeeper x = withPivot();
            x.read(1, 3);
            x.read(1, 5);
            due("commit", x.commit(2), 0);
        });
        edge("a looking of A is refused, A READ-WRITE", () -> {
            RingKeeper x = trapFor(false, 0);
            due("read", x.read(4, 2), NONE);
            RingKeeper y = trapFor(false, 1);
            due("read", y.read(4, 2), NONE);
        });
        edge("a looking of A is refused, A READ-ONLY (OUT is START)", () -> {
            RingKeeper x = trapFor(true, 1);
            due("read", x.read(4, 2), NONE);
            dueWhy(x, 2, 4, 2, 3);
        });
        edge("a looking of A is not refused, A READ-ONLY (OUT is 1 above START)", () -> {
            RingKeeper x = trapFor(true, 0);
            due("not SAFE yet", x.told(4, 7), 1);
            due("read", x.read(4, 2), 0);
            due("OUT", x.told(4, 3), 2);
        });
        edge("A is ABORTED, and nothing is told", () -> {
            String[] calls = {"read", "near up", "near down", "scan"};
            for (int i = 0; i < calls.length; i++) {
                RingKeeper y = withTrap();
                int late = y.begin(false);
                y.scan(late, 2, 6, 9);
                y.read(late, 1);
                y.write(1, 2, 5);
                int answer = i == 0 ? y.read(1, 6) : i == 1 ? y.near(1, 2, true)
                        : i == 2 ? y.near(1, 6, false) : y.scan(1, 2, 9, 9);
                due(calls[i], answer, NONE);
                due("state", y.told(1, 0), 5);
                dueFound(y, 1, 10);
                dueRows(y, 2, 20, 6, 60);
            }
        });
        edge("a looking is refused (it makes no one preceded)", () -> {
            RingKeeper x = withPivot();
            x.begin(true);
            x.commit(2);
            x.read(1, 2);
            due("preceded", x.told(2, 4), 0);
        });
        edge("if one of the keys has a version", () -> {
            RingKeeper x = withTrap();
            due("beside it", x.scan(1, 3, 5, 9), 0);
            due("beside it", x.scan(1, 7, MAX, 9), 0);
            due("beside it", x.scan(1, MIN, 1, 9), 0);
            due("the last of the keys", x.scan(1, 3, 6, 9), NONE);
            RingKeeper y = withTrap();
            due("the first of the keys", y.scan(1, 2, 5, 9), NONE);
            RingKeeper z = withTrap();
            due("one in the middle", z.scan(1, MIN, MAX, 1), NONE);
        });
        edge("with a moment above A's START", () -> {
            RingKeeper x = withTrap();
            int late = x.begin(false);
            due("START is the moment", x.told(late, 1), 2);
            due("read", x.read(late, 2), 1);
            due("scan", x.scan(late, MIN, MAX, 100), 3);
        });
        edge("a version (be it not the latest)", () -> {
            RingKeeper x = withTrap();
            put(x, 2);
            due("read", x.read(1, 2), NONE);
            dueWhy(x, 2, 1, 2, 3);
        });
        edge("at a key, perhaps anew", () -> {
            RingKeeper x = withTrap();
            x.save(1);
            x.write(1, 2, 5);
            due("read of its own", x.read(1, 2), 1);
            x.undo(1, 1);
            due("read anew", x.read(1, 2), NONE);
        });
    }

    private static void writeConflict() {
        at("WRITE CONFLICT");
        edge("a version with a moment above its START (1 above)", () -> {
            RingKeeper x = inConflict();
            due("commit", x.commit(1), 1);
            due("versionValue", x.versionValue(1, 0), 10);
        });
        edge("a version with a moment above its START (the same)", () -> {
            RingKeeper x = with(1);
            x.begin(false);
            x.write(2, 1, 5);
            put(x, 2);
            due("commit", x.commit(2), 0);
        });
        edge("a version (of NOTHING too)", () -> {
            RingKeeper x = new RingKeeper();
            x.begin(false);
            drop(x, 1);
            x.write(1, 1, 5);
            due("commit", x.commit(1), 1);
        });
        edge("a key that it WROTE (NOTHING too)", () -> {
            RingKeeper x = new RingKeeper();
            x.begin(false);
            put(x, 1);
            x.remove(1, 1);
            due("commit", x.commit(1), 1);
        });
        edge("a key that it WROTE (undone is not)", () -> {
            RingKeeper x = new RingKeeper();
            x.begin(false);
            put(x, 1);
            x.save(1);
            x.write(1, 1, 5);
            x.undo(1, 1);
            due("commit", x.commit(1), 0);
        });
        edge("a key that it WROTE (looked at is not)", () -> {
            RingKeeper x = new RingKeeper();
            x.begin(false);
            put(x, 1);
            x.read(1, 1);
            x.write(1, 2, 5);
            due("commit", x.commit(1), 0);
        });
        edge("a version (what was given up is none)", () -> {
            RingKeeper x = new RingKeeper();
            x.begin(false);
            x.begin(false);
            x.write(2, 1, 5);
            x.abort(2);
            x.write(1, 1, 5);
            due("commit", x.commit(1), 0);
        });
        edge("this is asked ahead of DANGER", () -> {
            RingKeeper x = withPivot();
            x.read(1, 2);
            x.write(2, 1, 5);
            due("commit", x.commit(2), 1);
            due("state", x.told(2, 0), 4);
            dueWhy(x, 1, 2, 3, 1);
        });
    }

    private static void dueKind(RingKeeper x, int t, int want) {
        due("told(" + t + ", 7)", x.told(t, 7), want);
    }

    private static void safe() {
        at("SAFE");
        edge("none of the READ-WRITE ones that were ACTIVE when it began (there was none)", () -> {
            RingKeeper x = with(1);
            x.begin(true);
            dueKind(x, 2, 2);
            x.begin(true);
            dueKind(x, 3, 2);
        });
        edge("of the READ-WRITE ones (READ-ONLY ones are not waited for)", () -> {
            RingKeeper x = new RingKeeper();
            x.begin(false);
            x.begin(true);
            x.begin(true);
            dueKind(x, 3, 1);
            x.commit(1);
            dueKind(x, 2, 2);
            dueKind(x, 3, 2);
        });
        edge("that were ACTIVE when it began (later ones are not waited for)", () -> {
            RingKeeper x = new RingKeeper();
            x.begin(false);
            x.begin(true);
            x.begin(false);
            dueKind(x, 2, 1);
            x.abort(3);
            dueKind(x, 2, 1);
            x.begin(false);
            x.abort(1);
            dueKind(x, 2, 2);
        });
        edge("as soon as none of these is ACTIVE any more (given up, the last of several)", () -> {
            RingKeeper x = new RingKeeper();
            x.begin(false);
            x.begin(false);
            x.begin(false);
            x.begin(true);
            x.abort(2);
            dueKind(x, 4, 1);
            x.commit(3);
            dueKind(x, 4, 1);
            x.abort(1);
            dueKind(x, 4, 2);
        });
        edge("as soon as none of these is ACTIVE any more (by a WRITE CONFLICT)", () -> {
            RingKeeper x = inConflict();
            x.begin(true);
            dueKind(x, 3, 1);
            x.commit(1);
            dueKind(x, 3, 2);
        });
        edge("as soon as none of these is ACTIVE any more (by a DANGER of its looking)", () -> {
            RingKeeper x = withTrap();
            x.begin(true);
            dueKind(x, 4, 1);
            x.read(1, 2);
            dueKind(x, 4, 2);
        });
        edge("if none of these was COMMITTED (one ABORTED by a DANGER, with an OUT)", () -> {
            RingKeeper x = withPivot();
            x.begin(true);
            x.read(1, 2);
            due("commit", x.commit(2), 2);
            dueKind(x, 4, 1);
            x.abort(1);
            dueKind(x, 4, 2);
        });
        edge("COMMITTED with an OUT that is not 0 (it is 0)", () -> {
            RingKeeper x = new RingKeeper();
            x.begin(false);
            x.begin(true);
            x.write(1, 1, 1);
            x.commit(1);
            dueKind(x, 2, 2);
        });
        edge("and not above its START (the same)", () -> {
            RingKeeper x = trapFor(true, 1);
            dueKind(x, 4, 3);
        });
        edge("and not above its START (1 above it)", () -> {
            RingKeeper x = trapFor(true, 0);
            dueKind(x, 4, 1);
            x.abort(1);
            dueKind(x, 4, 2);
        });
        edge("and not above its START (below it)", () -> {
            RingKeeper x = withPivot();
            put(x, 9);
            x.begin(true);
            due("START", x.told(5, 1), 2);
            x.commit(2);
            dueKind(x, 5, 3);
        });
        edge("none of these (one that began behind it, with such an OUT, does not count)", () -> {
            RingKeeper x = new RingKeeper();
            x.begin(false);
            x.begin(true);
            x.begin(false);
            x.read(3, 1);
            put(x, 1);
            due("OUT", x.told(3, 3), 1);
            x.commit(3);
            dueKind(x, 2, 1);
            x.commit(1);
            dueKind(x, 2, 2);
        });
        edge("with the first such one it is UNSAFE, for good", () -> {
            RingKeeper x = withPivot();
            x.begin(true);
            x.read(4, 9);
            x.commit(2);
            dueKind(x, 4, 3);
            x.commit(1);
            dueKind(x, 4, 3);
            due("RUNS", x.told(4, 6), 1);
            x.read(4, 11);
            due("RUNS", x.told(4, 6), 2);
        });
        edge("UNSAFE, for good (also if the last one is the first such one)", () -> {
            RingKeeper x = withPivot();
            x.begin(true);
            x.abort(1);
            dueKind(x, 4, 1);
            x.commit(2);
            dueKind(x, 4, 3);
        });
        edge("One that is SAFE has no READ KEYS", () -> {
            RingKeeper x = new RingKeeper();
            x.begin(false);
            x.begin(true);
            x.scan(2, 0, 9, 9);
            put(x, 1);
            due("RUNS", x.told(2, 6), 1);
            due("OUT", x.told(2, 3), 1);
            x.commit(1);
            dueKind(x, 2, 2);
            due("RUNS", x.told(2, 6), 0);
            due("RUNS of all", x.count(7), 0);
            due("OUT", x.told(2, 3), 0);
        });
        edge("none from then on, either", () -> {
            RingKeeper x = held();
            int b = put(x, 1);
            x.read(1, 1);
            x.near(1, 2, true);
            x.scan(1, 0, 9, 9);
            due("RUNS", x.told(1, 6), 0);
            due("OUT", x.told(1, 3), 0);
            due("preceded by a SAFE one", x.told(b, 4), 0);
            int c = put(x, 2);
            due("preceded by a SAFE one", x.told(c, 4), 0);
        });
        edge("none .. also when it is COMMITTED", () -> {
            RingKeeper x = held();
            x.begin(true);
            x.scan(2, 0, 9, 9);
            int w = x.begin(false);
            x.commit(2);
            dueTold(x, 2, 2, 0, 1, 0, 0, 0, 0, 2, 0);
            x.write(w, 1, 1);
            x.commit(w);
            due("preceded by a SAFE one", x.told(w, 4), 0);
        });
    }

    private static void horizon() {
        at("HORIZON");
        edge("the least START of all that are ACTIVE", () -> {
            RingKeeper x = with(1);
            x.begin(true);
            put(x, 2);
            x.begin(false);
            put(x, 3);
            due("of two", x.count(10), 1);
            x.abort(2);
            due("of the one that is left", x.count(10), 2);
            x.begin(true);
            due("a later one does not matter", x.count(10), 2);
        });
        edge("if none is, the latest moment", () -> {
            RingKeeper x = new RingKeeper();
            due("of a new object", x.count(10), 0);
            put(x, 1);
            due("behind one commit", x.count(10), 1);
            x.begin(false);
            put(x, 2);
            due("held", x.count(10), 1);
            x.abort(2);
            due("let go by an abort", x.count(10), 2);
        });
        edge("the COMMITTED ones with a moment above HORIZON", () -> {
            RingKeeper x = with(1);
            x.begin(true);
            put(x, 2);
            dueTold(x, 1, 2, NONE, NONE, NONE, NONE, NONE, NONE, NONE, NONE);
            dueTold(x, 3, 2, 1, 2, 0, 0, 1, 0, 0, 0);
            due("kept", x.count(6), 1);
            x.commit(2);
            dueTold(x, 3, 2, NONE, NONE, NONE, NONE, NONE, NONE, NONE, NONE);
            due("kept", x.count(6), 0);
        });
        edge("the versions with a moment above HORIZON, and the one with the greatest moment not above it", () -> {
            RingKeeper x = with(1);
            put(x, 1);
            x.begin(true);
            put(x, 1);
            put(x, 1);
            due("moment", x.version(1, 0, 0), 4);
            due("moment", x.version(1, 1, 0), 3);
            due("moment", x.version(1, 2, 0), 2);
            due("moment", x.version(1, 3, 0), NONE);
            due("kept", x.count(8), 3);
            x.commit(3);
            due("moment", x.version(1, 0, 0), 4);
            due("moment", x.version(1, 1, 0), NONE);
            due("kept", x.count(8), 1);
        });
        edge("if that is not NOTHING", () -> {
            RingKeeper x = with(1);
            drop(x, 1);
            x.begin(true);
            due("NOTHING, not above", x.count(8), 0);
            due("keys", x.count(9), 0);
            put(x, 1);
            due("a value above NOTHING", x.count(8), 1);
            due("moment", x.version(1, 1, 0), NONE);
            drop(x, 1);
            due("NOTHING above HORIZON is kept", x.count(8), 2);
            due("moment", x.version(1, 0, 0), 4);
            x.abort(3);
            due("kept", x.count(8), 0);
        });
    }

    private static void throwing() {
        at("What throws changes nothing");
        RingKeeper x = with(1, 3);
        x.begin(false);
        x.begin(true);
        x.begin(false);
        x.scan(2, 0, 5, 5);
        x.read(2, 3);
        x.write(2, 4, 40);
        x.save(2);
        x.remove(2, 1);
        put(x, 3);
        x.write(4, 3, 30);
        x.commit(4);
        edge("by no such transaction", () -> dueEnded(x, 9, NONE));
        edge("by one that is COMMITTED", () -> dueEnded(x, 1, 2));
        edge("by one that is ABORTED", () -> dueEnded(x, 4, 4));
        edge("scan", () -> {
            dueThrowAlone(x, "from above to", "IllegalArgumentException", () -> x.scan(2, 9, 8, 1));
            dueThrowAlone(x, "most 0", "IllegalArgumentException", () -> x.scan(2, 8, 9, 0));
            dueThrowAlone(x, "most 101", "IllegalArgumentException", () -> x.scan(2, 8, 9, 101));
        });
        edge("rowKey, rowValue", () -> {
            dueThrowAlone(x, "rowKey", "NoSuchElementException", () -> x.rowKey(2));
            dueThrowAlone(x, "rowValue", "NoSuchElementException", () -> x.rowValue(-1));
        });
        edge("write, remove of a READ-ONLY one", () -> {
            dueThrowAlone(x, "write", "UnsupportedOperationException", () -> x.write(3, 1, 1));
            dueThrowAlone(x, "remove", "UnsupportedOperationException", () -> x.remove(3, 1));
        });
        edge("undo", () -> {
            dueThrowAlone(x, "no place 0", "IndexOutOfBoundsException", () -> x.undo(2, 0));
            dueThrowAlone(x, "no place 2", "IndexOutOfBoundsException", () -> x.undo(2, 2));
        });
        edge("what was done before stands", () -> {
            due("undo", x.undo(2, 1), 1);
            due("commit", x.commit(2), 0);
            due("astray()", x.astray(), 0);
        });
    }

    public static void main(String[] args) {
        transactions();
        moments();
        concurrent();
        versions();
        sees();
        runs();
        precedes();
        out();
        mayNotPrecede();
        danger();
        writeConflict();
        safe();
        horizon();
        throwing();
        end();
    }
}

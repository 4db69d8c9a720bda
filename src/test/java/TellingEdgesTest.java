/** The boundary cases of promises 16 to 20, each sentence with a test of its own; AstrayTest has promise 21's. */
public final class TellingEdgesTest extends Check {
    private static final int[] FAR = {MIN, MIN + 1, -2, -1, 1 << 16, MAX - 1, MAX};

    private static void dueNothingMore(RingKeeper x, int t) {
        for (int what = 1; what <= 8; what++) due("told(" + t + ", " + what + ")", x.told(t, what), NONE);
    }

    private static void told() {
        at("promise 16");
        edge("what 0: 1 ACTIVE, 2 COMMITTED", () -> {
            RingKeeper x = new RingKeeper();
            x.begin(false);
            due("told", x.told(1, 0), 1);
            x.commit(1);
            due("told", x.told(1, 0), 2);
        });
        edge("what 0: 3 given up", () -> {
            RingKeeper x = held();
            x.begin(false);
            x.abort(2);
            due("told", x.told(2, 0), 3);
            dueNothingMore(x, 2);
        });
        edge("what 0: ABORTED 4 by a WRITE CONFLICT", () -> {
            RingKeeper x = held();
            x.begin(false);
            put(x, 1);
            x.write(2, 1, 1);
            x.commit(2);
            due("told", x.told(2, 0), 4);
            dueNothingMore(x, 2);
        });
        edge("what 0: ABORTED 5 by a DANGER", () -> {
            RingKeeper x = withPivot();
            x.read(1, 2);
            x.commit(2);
            due("by a commit", x.told(2, 0), 5);
            dueNothingMore(x, 2);
            RingKeeper y = withPivot();
            y.begin(true);
            y.commit(2);
            y.read(1, 2);
            due("by a looking", y.told(1, 0), 5);
            dueNothingMore(y, 1);
        });
        edge("Of those that are ACTIVE or KEPT", () -> {
            RingKeeper x = with(1);
            due("not KEPT: state", x.told(1, 0), 2);
            dueNothingMore(x, 1);
            x.begin(true);
            put(x, 1, 2);
            dueNothingMore(x, 1);
            dueTold(x, 3, 2, 1, 2, 0, 0, 2, 0, 0, 0);
            dueTold(x, 2, 1, 1, 0, 0, 0, 0, 0, 2, 0);
            x.abort(2);
            due("KEPT no more: state", x.told(3, 0), 2);
            dueNothingMore(x, 3);
        });
        edge("2 its moment (0: ACTIVE)", () -> {
            RingKeeper x = held();
            put(x, 1);
            x.begin(false);
            due("ACTIVE", x.told(3, 2), 0);
            x.commit(3);
            due("COMMITTED", x.told(3, 2), 2);
        });
        edge("3 OUT (as long as it is KEPT)", () -> {
            RingKeeper x = withPivot();
            due("ACTIVE", x.told(2, 3), 1);
            x.commit(2);
            due("COMMITTED", x.told(2, 3), 1);
            put(x, 1);
            due("COMMITTED", x.told(2, 3), 1);
        });
        edge("4 whether there was one that PRECEDED it (looked ahead of its commit, or behind)", () -> {
            RingKeeper x = new RingKeeper();
            x.begin(false);
            x.begin(false);
            x.read(1, 1);
            due("by one that looked before", x.told(put(x, 1), 4), 1);
            int b = put(x, 2);
            due("by none", x.told(b, 4), 0);
            x.scan(2, 2, 4, 9);
            due("by one that looked behind it", x.told(b, 4), 1);
        });
        edge("4 whether there was one that PRECEDED it (of several versions, all)", () -> {
            RingKeeper x = new RingKeeper();
            x.begin(false);
            int a = put(x, 1);
            int b = put(x, 1);
            x.read(1, 1);
            due("the first", x.told(a, 4), 1);
            due("the second", x.told(b, 4), 1);
        });
        edge("4 .. PRECEDED it (by one that is COMMITTED)", () -> {
            RingKeeper x = held();
            x.begin(false);
            x.begin(false);
            x.read(2, 1);
            x.commit(2);
            x.write(3, 1, 1);
            x.commit(3);
            due("told", x.told(3, 4), 1);
        });
        edge("4 .. be that ABORTED since (given up)", () -> {
            RingKeeper x = held();
            x.begin(false);
            x.read(2, 1);
            int b = put(x, 1);
            x.abort(2);
            due("told", x.told(b, 4), 1);
        });
        edge("4 .. be that ABORTED since (by a WRITE CONFLICT)", () -> {
            RingKeeper x = held();
            x.begin(false);
            int b = put(x, 1);
            x.read(2, 1);
            x.write(2, 1, 1);
            due("commit", x.commit(2), 1);
            due("told", x.told(b, 4), 1);
        });
        edge("4 .. be that ABORTED since (by a DANGER)", () -> {
            RingKeeper x = withPivot();
            x.read(1, 6);
            x.commit(2);
            due("told", x.told(3, 4), 1);
        });
        edge("4 whether there was one (that is SAFE since)", () -> {
            RingKeeper x = new RingKeeper();
            x.begin(false);
            x.begin(true);
            x.read(2, 1);
            int b = put(x, 1);
            x.commit(1);
            due("kind", x.told(2, 7), 2);
            due("told", x.told(b, 4), 1);
        });
        edge("4 .. (one ABORTED before does not count)", () -> {
            RingKeeper x = held();
            x.begin(false);
            x.read(2, 1);
            x.abort(2);
            due("told", x.told(put(x, 1), 4), 0);
        });
        edge("5 keys that it WROTE", () -> {
            RingKeeper x = held();
            x.begin(false);
            due("none", x.told(2, 5), 0);
            x.write(2, 1, 1);
            x.write(2, 1, 2);
            x.remove(2, 2);
            x.save(2);
            x.write(2, 3, 3);
            due("ACTIVE", x.told(2, 5), 3);
            x.undo(2, 1);
            due("undone", x.told(2, 5), 2);
            x.commit(2);
            due("COMMITTED", x.told(2, 5), 2);
        });
        edge("6 RUNS (as long as it is KEPT)", () -> {
            RingKeeper x = held();
            x.begin(false);
            x.read(2, 1);
            x.read(2, 3);
            x.commit(2);
            due("COMMITTED", x.told(2, 6), 2);
            x.abort(1);
            due("KEPT no more", x.told(2, 6), NONE);
        });
        edge("7: 0 READ-WRITE, 1 READ-ONLY, 2 SAFE, 3 UNSAFE", () -> {
            RingKeeper x = withPivot();
            x.begin(true);
            due("READ-WRITE", x.told(2, 7), 0);
            due("READ-ONLY", x.told(4, 7), 1);
            x.commit(2);
            due("UNSAFE", x.told(4, 7), 3);
            x.abort(1);
            due("SAFE", x.told(x.begin(true), 7), 2);
        });
        edge("7 (as it was when it was COMMITTED)", () -> {
            RingKeeper x = held();
            for (int i = 0; i < 3; i++) x.begin(false);
            x.read(2, 1);
            x.write(3, 1, 1);
            x.commit(3);
            int waiting = x.begin(true);
            int unsafe = x.begin(true);
            x.read(waiting, 5);
            x.commit(waiting);
            x.commit(2);
            x.commit(unsafe);
            x.commit(4);
            due("READ-WRITE", x.told(2, 7), 0);
            due("READ-ONLY, not UNSAFE", x.told(waiting, 7), 1);
            due("UNSAFE", x.told(unsafe, 7), 3);
            int safe = x.begin(true);
            x.commit(safe);
            due("SAFE", x.told(safe, 7), 2);
            RingKeeper y = held();
            y.begin(false);
            y.begin(true);
            y.commit(3);
            y.commit(2);
            due("READ-ONLY, not SAFE", y.told(3, 7), 1);
        });
        edge("8 places to come back to (as they were then)", () -> {
            RingKeeper x = held();
            x.begin(false);
            x.begin(true);
            due("none", x.told(2, 8), 0);
            for (int n = 0; n < 10; n++) x.save(2);
            due("ten", x.told(2, 8), 10);
            x.undo(2, 7);
            due("seven", x.told(2, 8), 7);
            x.save(3);
            x.commit(2);
            x.commit(3);
            due("COMMITTED", x.told(2, 8), 7);
            due("COMMITTED", x.told(3, 8), 1);
        });
        edge("NONE for others (no such transaction)", () -> {
            RingKeeper x = held();
            put(x, 1);
            for (int t : new int[] {MIN, -1, 0, 3, MAX}) {
                for (int what = -1; what <= 9; what++) due("told(" + t + ", " + what + ")", x.told(t, what), NONE);
            }
        });
        edge("NONE for others (no such what)", () -> {
            RingKeeper x = held();
            put(x, 1);
            for (int t = 1; t <= 2; t++) {
                for (int what : FAR) due("told(" + t + ", " + what + ")", x.told(t, what), NONE);
                due("told(" + t + ", 9)", x.told(t, 9), NONE);
            }
        });
    }

    private static RingKeeper inConflict() {
        RingKeeper x = with(1, 2, 3);
        x.begin(false);
        put(x, 2);
        x.write(2, 2, 5);
        due("commit", x.commit(2), 1);
        return x;
    }

    private static void why() {
        at("promise 17");
        edge("0: there was none yet", () -> {
            RingKeeper x = with(1);
            x.abort(x.begin(false));
            x.commit(x.begin(true));
            dueWhy(x, 0, 0, 0, 0, 0);
        });
        edge("Of the latest transaction (of both kinds)", () -> {
            RingKeeper x = withPivot();
            x.write(1, 1, 1);
            x.read(1, 2);
            int late = x.begin(false);
            x.read(late, 6);
            due("commit", x.commit(2), 2);
            dueWhy(x, 2, 1, 2, 3, 0);
            due("commit", x.commit(1), 1);
            dueWhy(x, 1, 1, 3, 1, 0);
            x.abort(late);
            put(x, 1);
            dueWhy(x, 1, 1, 3, 1, 0);
        });
        edge("Of a WRITE CONFLICT: 1 it", () -> dueWhy(inConflict(), 1, 2, 3, 2));
        edge("2 the transaction of the version with the least moment above its START", () -> {
            RingKeeper x = with(1);
            put(x, 1);
            x.begin(false);
            int first = put(x, 1);
            put(x, 1);
            put(x, 1);
            x.write(3, 1, 5);
            due("commit", x.commit(3), 1);
            dueWhy(x, 1, 3, first, 1);
        });
        edge("3 the least key that it WROTE and that has one", () -> {
            RingKeeper x = with(1, 2, 3, 4, 5);
            x.begin(false);
            int other = put(x, 5, 4, 2, 1);
            x.write(2, 5, 0);
            x.write(2, 4, 0);
            x.remove(2, 2);
            x.write(2, 3, 0);
            x.save(2);
            x.write(2, 1, 0);
            x.undo(2, 1);
            due("commit", x.commit(2), 1);
            dueWhy(x, 1, 2, other, 2);
        });
        edge("3 the least key (below 0, the first int, the last)", () -> {
            for (int key : new int[] {MIN, -1, 0, MAX}) {
                RingKeeper x = new RingKeeper();
                x.begin(false);
                put(x, MAX, key);
                x.write(1, MAX, 0);
                x.write(1, key, 0);
                due("commit", x.commit(1), 1);
                dueWhy(x, 1, 1, 2, key);
            }
        });
        edge("Of a DANGER: 1 A, 2 B, 3 the transaction with the moment that is OUT of B", () -> {
            RingKeeper x = withPivot();
            put(x, 9);
            int other = put(x, 7);
            x.read(2, 7);
            x.read(1, 6);
            due("OUT", x.told(2, 3), 1);
            due("commit", x.commit(2), 2);
            dueWhy(x, 2, 1, 2, 3);
            due("the later one", other, 5);
        });
        edge("by a commit A is the one with the least number (ACTIVE ones)", () -> {
            RingKeeper x = withPivot();
            int a = x.begin(false);
            int b = x.begin(true);
            x.read(b, 6);
            x.read(a, 2);
            due("commit", x.commit(2), 2);
            dueWhy(x, 2, a, 2, 3);
        });
        edge("by a commit A is the one with the least number (COMMITTED ones behind ACTIVE ones)", () -> {
            RingKeeper x = withPivot();
            int a = x.begin(false);
            int b = x.begin(false);
            x.read(b, 6);
            x.read(a, 2);
            x.commit(b);
            due("commit", x.commit(2), 2);
            dueWhy(x, 2, a, 2, 3);
        });
        edge("by a commit A is the one with the least number (COMMITTED ones, the later first)", () -> {
            RingKeeper x = withPivot();
            int a = x.begin(false);
            int b = x.begin(false);
            x.read(b, 6);
            x.read(a, 2);
            x.commit(b);
            x.commit(a);
            due("commit", x.commit(2), 2);
            dueWhy(x, 2, a, 2, 3);
        });
        edge("by a commit A is the one with the least number (of those that may not)", () -> {
            RingKeeper x = new RingKeeper();
            for (int i = 0; i < 4; i++) x.begin(false);
            x.read(1, 2);
            x.read(4, 2);
            x.commit(1);
            x.read(2, 1);
            x.write(2, 2, 2);
            x.write(3, 1, 1);
            x.commit(3);
            due("commit", x.commit(2), 2);
            dueWhy(x, 2, 4, 2, 3);
        });
        edge("by a looking B the one with the least moment", () -> {
            for (int first = 2; first <= 3; first++) {
                RingKeeper x = new RingKeeper();
                for (int i = 0; i < 4; i++) x.begin(false);
                x.read(2, 1);
                x.read(3, 1);
                x.write(4, 1, 1);
                x.commit(4);
                x.write(2, 7, 1);
                x.write(3, 8, 1);
                x.commit(first);
                x.commit(5 - first);
                due("scan", x.scan(1, 5, 9, 9), NONE);
                dueWhy(x, 2, 1, first, 4, 0);
            }
        });
        edge("by a looking B the one with the least moment (of those that it may not precede)", () -> {
            RingKeeper x = withPivot();
            put(x, 3);
            x.commit(2);
            due("scan", x.scan(1, 2, 9, 9), NONE);
            dueWhy(x, 2, 1, 2, 3);
        });
        edge("0 for others, or ahead of any", () -> {
            for (int what : FAR) due("why(" + what + ")", new RingKeeper().why(what), 0);
            RingKeeper x = inConflict();
            RingKeeper y = withTrap();
            y.read(1, 2);
            for (int what : FAR) due("why(" + what + ")", x.why(what), 0);
            for (int what : FAR) due("why(" + what + ")", y.why(what), 0);
            due("why(4)", x.why(4), 0);
            due("why(4)", y.why(4), 0);
        });
    }

    /** Key 1 has three versions: a value (moment 2), NOTHING (3), a value (4); the one with moment 1 is KEPT, too. */
    private static RingKeeper withVersions() {
        RingKeeper x = with(1);
        x.begin(true);
        put(x, 1);
        drop(x, 1);
        int t = x.begin(false);
        x.write(t, 1, -7);
        x.commit(t);
        return x;
    }

    private static void versions() {
        at("promise 18");
        edge("version i of a key that is KEPT (0 the latest)", () -> {
            RingKeeper x = withVersions();
            int[] moments = {4, 3, 2, 1, NONE};
            int[] values = {1, 0, 1, 1, NONE};
            int[] writers = {5, 4, 3, 1, NONE};
            for (int i = 0; i < moments.length; i++) {
                due("moment of " + i, x.version(1, i, 0), moments[i]);
                due("a value, " + i, x.version(1, i, 1), values[i]);
                due("writer of " + i, x.version(1, i, 2), writers[i]);
            }
        });
        edge("version i of a key that is KEPT (others are KEPT no more)", () -> {
            RingKeeper x = withVersions();
            x.commit(2);
            due("the latest", x.version(1, 0, 0), 4);
            for (int i = 1; i <= 3; i++) due("version " + i, x.version(1, i, 0), NONE);
        });
        edge("NONE for others", () -> {
            RingKeeper x = withVersions();
            for (int what : FAR) due("version(1, 0, " + what + ")", x.version(1, 0, what), NONE);
            due("version(1, 0, 3)", x.version(1, 0, 3), NONE);
        });
        edge("or if there is none such (i)", () -> {
            RingKeeper x = withVersions();
            for (int i : FAR) {
                for (int what = 0; what <= 2; what++) due("version(1, " + i + ")", x.version(1, i, what), NONE);
            }
        });
        edge("or if there is none such (the key)", () -> {
            RingKeeper x = withVersions();
            for (int key : FAR) {
                for (int what = 0; what <= 2; what++) due("version(" + key + ", 0)", x.version(key, 0, what), NONE);
            }
            due("a neighbour", x.version(0, 0, 0), NONE);
            due("a neighbour", x.version(2, 0, 0), NONE);
        });
        at("promise 19");
        edge("Its value", () -> {
            RingKeeper x = withVersions();
            due("the latest", x.versionValue(1, 0), -7);
            due("an earlier one", x.versionValue(1, 2), 10);
            due("the first", x.versionValue(1, 3), 10);
        });
        edge("0 of NOTHING", () -> due("NOTHING", withVersions().versionValue(1, 1), 0));
        edge("0 .. if there is none such", () -> {
            RingKeeper x = withVersions();
            for (int i : FAR) due("versionValue(1, " + i + ")", x.versionValue(1, i), 0);
            for (int key : FAR) due("versionValue(" + key + ", 0)", x.versionValue(key, 0), 0);
            due("versionValue(1, 4)", x.versionValue(1, 4), 0);
            x.commit(2);
            due("versionValue(1, 1)", x.versionValue(1, 1), 0);
            due("versionValue(1, 2)", x.versionValue(1, 2), 0);
        });
    }

    private static void count() {
        at("promise 20");
        edge("0 transactions that began (a refused begin is none)", () -> {
            RingKeeper x = new RingKeeper();
            for (int i = 0; i < 30; i++) x.begin(false);
            due("began", x.count(0), 24);
            x.abort(1);
            x.begin(true);
            due("began", x.count(0), 25);
        });
        edge("1 are ACTIVE", () -> {
            RingKeeper x = withTrap();
            due("one is left", x.count(1), 1);
            x.read(1, 2);
            due("none", x.count(1), 0);
        });
        edge("2 were COMMITTED (KEPT or not)", () -> {
            RingKeeper x = with(1);
            x.begin(true);
            put(x, 1);
            due("committed", x.count(2), 2);
            x.commit(2);
            due("committed", x.count(2), 3);
        });
        edge("3 given up, 4 ABORTED by a WRITE CONFLICT, 5 by a DANGER", () -> {
            RingKeeper x = withTrap();
            int late = x.begin(false);
            x.write(late, 1, 1);
            put(x, 1);
            x.read(1, 2);
            due("given up", x.count(3), 0);
            due("conflict", x.count(4), 0);
            due("danger", x.count(5), 1);
            x.commit(late);
            due("given up", x.count(3), 0);
            due("conflict", x.count(4), 1);
            due("danger", x.count(5), 1);
            x.abort(x.begin(true));
            due("given up", x.count(3), 1);
        });
        edge("6 COMMITTED ones that are KEPT", () -> {
            RingKeeper x = with(1);
            due("none is ACTIVE", x.count(6), 0);
            x.begin(true);
            due("none since", x.count(6), 0);
            put(x, 1);
            x.commit(x.begin(true));
            due("two since", x.count(6), 2);
            x.commit(2);
            due("none is ACTIVE", x.count(6), 0);
        });
        edge("7 RUNS of all that are ACTIVE or KEPT", () -> {
            RingKeeper x = new RingKeeper();
            x.begin(false);
            x.begin(false);
            x.begin(false);
            x.read(1, 1);
            x.read(2, 1);
            x.read(2, 3);
            x.read(3, 5);
            due("all ACTIVE", x.count(7), 4);
            x.commit(2);
            due("one KEPT", x.count(7), 4);
            x.abort(3);
            due("one given up", x.count(7), 3);
            x.abort(1);
            due("none KEPT", x.count(7), 0);
        });
        edge("8 versions that are KEPT, 9 keys with such", () -> {
            RingKeeper x = withVersions();
            put(x, 2);
            drop(x, 3);
            due("versions", x.count(8), 6);
            due("keys", x.count(9), 3);
            x.commit(2);
            due("versions", x.count(8), 2);
            due("keys, without the one that has NOTHING", x.count(9), 2);
        });
        edge("10 HORIZON, 11 the latest moment", () -> {
            RingKeeper x = with(1);
            x.begin(true);
            put(x, 1);
            due("HORIZON", x.count(10), 1);
            due("latest", x.count(11), 2);
            x.abort(2);
            due("HORIZON", x.count(10), 2);
            due("latest", x.count(11), 2);
        });
        edge("NONE for others", () -> {
            RingKeeper x = withVersions();
            for (int what : FAR) due("count(" + what + ")", x.count(what), NONE);
            due("count(12)", x.count(12), NONE);
        });
    }

    public static void main(String[] args) {
        told();
        why();
        versions();
        count();
        end();
    }
}

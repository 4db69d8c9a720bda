import java.lang.reflect.Field;
import java.util.List;

/**
 * Promise 21, each sentence with a test of its own. astray() tells 0 as long as the class keeps its
 * word, so here objects are spoiled from inside: a danger is hidden, or what a call once told is
 * changed, and astray() must see it.
 */
public final class AstrayTest extends Check {
    private static Field field(Object of, String name) {
        try {
            Field field = of.getClass().getDeclaredField(name);
            field.setAccessible(true);
            return field;
        } catch (NoSuchFieldException e) {
            throw new IllegalStateException(e);
        }
    }

    private static Object get(Object of, String name) {
        try {
            return field(of, name).get(of);
        } catch (IllegalAccessException e) {
            throw new IllegalStateException(e);
        }
    }

    private static void set(Object of, String name, Object value) {
        try {
            field(of, name).set(of, value);
        } catch (IllegalAccessException e) {
            throw new IllegalStateException(e);
        }
    }

    private static Object element(Object of, String list, int i) {
        return ((List<?>) get(of, list)).get(i);
    }

    private static void hideOut(RingKeeper x, int t) {
        set(element(x, "begun", t - 1), "out", 0);
    }

    /** As if t had looked at nothing; what its calls told stays. */
    private static void hideLookings(RingKeeper x, int t) {
        set(get(element(x, "begun", t - 1), "looked"), "size", 0);
    }

    /** What call i of a transaction told. */
    private static Object then(RingKeeper x, int t, int i) {
        return get(element(element(x, "begun", t - 1), "calls", i), "then");
    }

    private static Object latestOf(RingKeeper x, int place) {
        return get(element(get(x, "store"), "chains", place), "top");
    }

    /** Two that each look at what the other writes. */
    private static void addRing(RingKeeper x, int key) {
        int a = x.begin(false);
        int b = x.begin(false);
        x.read(a, key);
        x.read(b, key + 1);
        x.write(a, key + 1, 1);
        x.write(b, key, 1);
        due("commit", x.commit(a), 0);
        hideOut(x, b);
        due("commit into a hidden danger", x.commit(b), 0);
    }

    private static void dueAstray(RingKeeper x, int want) {
        due("astray()", x.astray(), want);
    }

    /**
     * X (2) writes 1 and 2. Z (1) looked at 2 before, so Z comes ahead of X. Y (3) began behind X and
     * looks at 3, which Z writes then, so Y comes ahead of Z. What Y does besides may close the ring.
     */
    private static RingKeeper openRing(Step ofY, RingKeeper x) {
        x.begin(false);
        x.begin(false);
        x.read(1, 2);
        x.write(2, 1, 10);
        x.write(2, 2, 20);
        x.commit(2);
        x.begin(false);
        x.read(3, 3);
        ofY.run();
        due("commit of Y", x.commit(3), 0);
        x.write(1, 3, 30);
        hideOut(x, 1);
        due("commit of Z", x.commit(1), 0);
        return x;
    }

    private static void comesAhead() {
        edge("Over all that were COMMITTED (none was)", () -> {
            RingKeeper x = new RingKeeper();
            dueAstray(x, 0);
            x.begin(false);
            x.write(1, 1, 1);
            x.read(1, 1);
            dueAstray(x, 0);
            x.abort(1);
            dueAstray(x, 0);
        });
        edge("Over all that were COMMITTED (a ring over one that is ABORTED is none)", () -> {
            RingKeeper x = new RingKeeper();
            x.begin(false);
            x.begin(false);
            x.read(1, 1);
            x.read(2, 2);
            x.write(1, 2, 1);
            x.write(2, 1, 1);
            x.commit(1);
            due("commit", x.commit(2), 2);
            dueAstray(x, 0);
        });
        edge("Over all that were COMMITTED (KEPT or not)", () -> {
            RingKeeper x = new RingKeeper();
            addRing(x, 1);
            due("kept", x.count(6), 0);
            dueAstray(x, 2);
        });
        edge("X comes ahead of Y (another one)", () -> {
            RingKeeper x = with(1);
            x.begin(false);
            x.scan(2, 0, 9, 9);
            x.write(2, 1, 1);
            x.write(2, 5, 1);
            x.near(2, 0, true);
            x.read(2, 5);
            due("commit", x.commit(2), 0);
            dueAstray(x, 0);
        });
        edge("(without more the three are no ring)", () -> {
            RingKeeper x = new RingKeeper();
            dueAstray(openRing(() -> x.read(3, 9), x), 0);
        });
        edge("if Y looked at a key and SAW the version of X there", () -> {
            RingKeeper x = new RingKeeper();
            dueAstray(openRing(() -> x.read(3, 1), x), 3);
        });
        edge("looked at a key (a SAFE one too)", () -> {
            RingKeeper x = new RingKeeper();
            x.begin(false);
            x.begin(false);
            x.read(1, 2);
            x.write(2, 2, 2);
            x.commit(2);
            x.begin(true);
            x.read(3, 1);
            x.read(3, 2);
            x.write(1, 1, 1);
            hideOut(x, 1);
            due("commit", x.commit(1), 0);
            due("SAFE, wrongly", x.told(3, 7), 2);
            due("commit", x.commit(3), 0);
            dueAstray(x, 3);
        });
        edge("of a key with a write of its own: would have seen without", () -> {
            RingKeeper x = new RingKeeper();
            dueAstray(openRing(() -> {
                x.save(3);
                x.write(3, 1, 11);
                x.near(3, 1, true);
                x.undo(3, 1);
            }, x), 3);
        });
        edge("looked (a read() of a key with a write of its own did not)", () -> {
            RingKeeper x = new RingKeeper();
            dueAstray(openRing(() -> {
                x.save(3);
                x.write(3, 1, 11);
                x.read(3, 1);
                x.undo(3, 1);
            }, x), 0);
        });
        edge("if Y's version of a key is the next one behind X's", () -> {
            RingKeeper x = new RingKeeper();
            dueAstray(openRing(() -> x.write(3, 1, 11), x), 3);
            RingKeeper y = new RingKeeper();
            dueAstray(openRing(() -> y.remove(3, 1), y), 3);
        });
        edge("if X looked at a key where the next version behind the one that it saw there is Y's", () -> {
            RingKeeper x = with(1, 2);
            addRing(x, 1);
            dueAstray(x, 2);
        });
        edge("or the first one of all, if it saw none", () -> {
            RingKeeper x = new RingKeeper();
            addRing(x, 1);
            dueAstray(x, 2);
        });
    }

    private static void rings() {
        edge("how many are on rings (one ring; those ahead of it and behind it are not)", () -> {
            RingKeeper x = with(1);
            addRing(x, 1);
            int behind = x.begin(false);
            x.scan(behind, 0, 9, 9);
            x.commit(behind);
            dueAstray(x, 2);
        });
        edge("how many are on rings (two rings; one between them is not)", () -> {
            RingKeeper x = new RingKeeper();
            addRing(x, 1);
            int between = x.begin(false);
            x.scan(between, 0, 20, 9);
            x.commit(between);
            addRing(x, 11);
            dueAstray(x, 4);
        });
        edge("how many are on rings (three that share it)", () -> {
            RingKeeper x = new RingKeeper();
            x.begin(true);
            for (int i = 0; i < 3; i++) x.begin(false);
            for (int t = 2; t <= 4; t++) x.scan(t, MIN, MAX, 9);
            for (int t = 2; t <= 4; t++) x.write(t, 100 * t, t);
            for (int t = 2; t <= 4; t++) {
                hideOut(x, t);
                due("commit", x.commit(t), 0);
            }
            x.commit(1);
            dueAstray(x, 3);
        });
        edge("how many are on rings (many, past the 64th moment)", () -> {
            RingKeeper x = new RingKeeper();
            for (int i = 0; i < 40; i++) addRing(x, 10 * i);
            put(x, -1);
            dueAstray(x, 80);
        });
        edge("If there is a ring (then other answers do not count)", () -> {
            RingKeeper x = withLookings();
            addRing(x, 11);
            set(then(x, 2, 0), "foundValue", 99L);
            dueAstray(x, 2);
        });
    }

    /** 1 wrote 1 and 2; 2 has read 1, gone near 2, scanned both, read 7, which has NOTHING, and written 1. */
    private static RingKeeper withLookings() {
        RingKeeper x = with(1, 2);
        x.begin(false);
        x.read(2, 1);
        x.near(2, 2, true);
        x.scan(2, 0, 9, 9);
        x.read(2, 7);
        x.write(2, 1, 11);
        x.commit(2);
        return x;
    }

    private static void doneAgain() {
        edge("from NOTHING on", () -> {
            RingKeeper x = new RingKeeper();
            x.begin(false);
            x.scan(1, MIN, MAX, 100);
            x.near(1, 0, false);
            x.read(1, 0);
            x.write(1, 0, 1);
            x.commit(1);
            dueAstray(x, 0);
        });
        edge("each as a whole with all its calls", () -> {
            RingKeeper x = with(1, 2, 3);
            x.begin(false);
            for (int n = 1; n <= 11; n++) x.save(2);
            x.remove(2, 2);
            x.read(2, 2);
            x.scan(2, 0, 9, 2);
            x.undo(2, 4);
            x.read(2, 2);
            x.write(2, 4, 40);
            x.near(2, 4, true);
            x.save(2);
            x.write(2, 5, 50);
            x.undo(2, 5);
            x.scan(2, 0, 9, 9);
            x.commit(2);
            dueAstray(x, 0);
        });
        edge("one only when all that come ahead of it are done", () -> {
            RingKeeper x = with(1);
            int first = x.begin(false);
            x.read(first, 1);
            x.scan(first, 1, 9, 9);
            x.near(first, 2, true);
            put(x, 1);
            put(x, 4);
            x.write(first, 9, 90);
            due("commit", x.commit(first), 0);
            put(x, 9);
            dueAstray(x, 0);
        });
        edge("of several the one with the least moment first", () -> {
            RingKeeper x = new RingKeeper();
            x.begin(false);
            x.read(1, 1);
            put(x, 1);
            x.commit(1);
            hideLookings(x, 1);
            dueAstray(x, 1);
            RingKeeper y = new RingKeeper();
            y.begin(false);
            y.read(1, 1);
            y.commit(1);
            put(y, 1);
            hideLookings(y, 1);
            dueAstray(y, 0);
        });
    }

    private static void otherAnswers() {
        edge("answered something else than then", () -> {
            dueAstray(withLookings(), 0);
            for (int call = 0; call < 4; call++) {
                RingKeeper x = withLookings();
                Object told = then(x, 2, call);
                set(told, "result", (Integer) get(told, "result") + 1);
                dueAstray(x, 1);
            }
        });
        edge("FOUND something else", () -> {
            for (int call = 0; call < 2; call++) {
                RingKeeper x = withLookings();
                set(then(x, 2, call), "foundKey", 99);
                dueAstray(x, 1);
                RingKeeper y = withLookings();
                set(then(y, 2, call), "foundValue", 99L);
                dueAstray(y, 1);
            }
        });
        edge("gave as ROWS something else", () -> {
            RingKeeper x = withLookings();
            ((long[]) get(then(x, 2, 2), "values"))[1]++;
            dueAstray(x, 1);
            RingKeeper y = withLookings();
            ((int[]) get(then(y, 2, 2), "keys"))[0]++;
            dueAstray(y, 1);
            RingKeeper z = withLookings();
            set(then(z, 2, 2), "rows", 1);
            dueAstray(z, 1);
        });
        edge("how many of their read(), near(), scan() (each counts once)", () -> {
            RingKeeper x = withLookings();
            for (int i = 0; i < 2; i++) {
                ((int[]) get(then(x, 2, 2), "keys"))[i]++;
                ((long[]) get(then(x, 2, 2), "values"))[i]++;
            }
            set(then(x, 2, 0), "foundKey", 99);
            set(then(x, 2, 0), "foundValue", 99L);
            set(then(x, 2, 3), "result", 1);
            dueAstray(x, 3);
        });
        edge("how many keys have another value than the latest versions say", () -> {
            RingKeeper x = withLookings();
            for (int place = 0; place < 2; place++) set(latestOf(x, place), "value", 77L);
            dueAstray(x, 2);
        });
        edge("another value (NOTHING for a value, or a value for NOTHING)", () -> {
            RingKeeper x = withLookings();
            set(latestOf(x, 0), "there", false);
            dueAstray(x, 1);
            RingKeeper y = with(1);
            drop(y, 1);
            set(latestOf(y, 0), "there", true);
            dueAstray(y, 1);
        });
        edge("and how many keys (added to the calls)", () -> {
            RingKeeper x = withLookings();
            set(latestOf(x, 0), "value", 77L);
            set(then(x, 2, 0), "foundValue", 99L);
            set(then(x, 2, 1), "foundValue", 99L);
            dueAstray(x, 3);
        });
    }

    public static void main(String[] args) {
        at("promise 21");
        comesAhead();
        rings();
        doneAgain();
        otherAnswers();
        end();
    }
}

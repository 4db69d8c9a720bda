import java.lang.reflect.Field;
import java.util.List;

/**
 * astray() tells 0 as long as the class keeps its word, so here objects are spoiled from inside: a
 * danger is hidden, or what a call once told is changed, and astray() must see it.
 */
public final class AstrayTest {
    private static int wrong = 0;

    private static void due(String call, long got, long want) {
        if (got != want) {
            wrong++;
            System.out.println(call + " answered " + got + ", due is " + want);
        }
    }

    private static Field field(Object of, String name) throws Exception {
        Field field = of.getClass().getDeclaredField(name);
        field.setAccessible(true);
        return field;
    }

    private static Object get(Object of, String name) throws Exception {
        return field(of, name).get(of);
    }

    private static Object element(Object of, String list, int i) throws Exception {
        return ((List<?>) get(of, list)).get(i);
    }

    private static void hideOut(RingKeeper x, int t) throws Exception {
        Object transaction = element(x, "begun", t - 1);
        field(transaction, "out").set(transaction, 0);
    }

    /** What call i of a transaction told. */
    private static Object then(RingKeeper x, int t, int i) throws Exception {
        return get(element(element(x, "begun", t - 1), "calls", i), "then");
    }

    /** Two that each look at what the other writes. */
    private static void addRing(RingKeeper x, int key) throws Exception {
        int a = x.begin(false);
        int b = x.begin(false);
        x.read(a, key);
        x.read(b, key + 1);
        x.write(a, key + 1, 1);
        x.write(b, key, 1);
        due("commit", x.commit(a), 0);
        hideOut(x, b);
        due("commit into a hidden danger", x.commit(b), 0);
    }

    private static void rings() throws Exception {
        RingKeeper x = new RingKeeper();
        int first = x.begin(false);
        x.write(first, 1, 1);
        x.commit(first);
        addRing(x, 1);
        int behind = x.begin(false);
        x.scan(behind, 0, 9, 9);
        x.commit(behind);
        due("astray() with a ring", x.astray(), 2);
        addRing(x, 11);
        due("astray() with two rings", x.astray(), 4);
    }

    private static void ringOfThree() throws Exception {
        RingKeeper x = new RingKeeper();
        int bystander = x.begin(true);
        for (int i = 0; i < 3; i++) x.begin(false);
        for (int i = 0; i < 3; i++) {
            x.near(2 + i, 10 * i, true);
            x.near(2 + i, 10 * i, false);
        }
        // Each looked at all keys: a ring of three however they commit.
        for (int i = 0; i < 3; i++) x.write(2 + i, 100 * i, i);
        for (int i = 0; i < 3; i++) {
            hideOut(x, 2 + i);
            due("commit", x.commit(2 + i), 0);
        }
        x.commit(bystander);
        due("astray() with three on rings", x.astray(), 3);
    }

    /** A ring over a READ-ONLY one: it saw the second, not the first, which did not see the second. */
    private static void ringOverReadOnly() throws Exception {
        RingKeeper x = new RingKeeper();
        int first = x.begin(false);
        int second = x.begin(false);
        x.read(first, 2);
        x.write(second, 2, 2);
        x.commit(second);
        int looker = x.begin(true);
        x.read(looker, 1);
        x.read(looker, 2);
        x.write(first, 1, 1);
        hideOut(x, first);
        due("commit", x.commit(first), 0);
        due("SAFE, wrongly", x.told(looker, 7), 2);
        due("commit", x.commit(looker), 0);
        due("astray() with a ring over a READ-ONLY one", x.astray(), 3);
    }

    private static RingKeeper withLookings() {
        RingKeeper x = new RingKeeper();
        int t = x.begin(false);
        x.write(t, 1, 10);
        x.write(t, 2, 20);
        x.commit(t);
        int u = x.begin(false);
        x.read(u, 1);
        x.near(u, 2, true);
        x.scan(u, 0, 9, 9);
        x.read(u, 7);
        x.write(u, 1, 11);
        x.commit(u);
        return x;
    }

    private static void otherAnswers() throws Exception {
        due("astray() as it is", withLookings().astray(), 0);
        String[] numbers = {"foundKey", "result", "rows"};
        for (int call = 0; call < 4; call++) {
            for (String name : numbers) {
                RingKeeper x = withLookings();
                Object told = then(x, 2, call);
                field(told, name).set(told, (Integer) get(told, name) + 1);
                due("astray() with another " + name + " of call " + call, x.astray(), 1);
            }
            RingKeeper x = withLookings();
            Object told = then(x, 2, call);
            field(told, "foundValue").set(told, 99L);
            due("astray() with another value found by call " + call, x.astray(), 1);
        }
        RingKeeper x = withLookings();
        ((long[]) get(then(x, 2, 2), "values"))[1]++;
        due("astray() with another row value", x.astray(), 1);
        RingKeeper y = withLookings();
        ((int[]) get(then(y, 2, 2), "keys"))[0]++;
        ((long[]) get(then(y, 2, 2), "values"))[0]++;
        field(then(y, 2, 0), "result").set(then(y, 2, 0), 0);
        due("astray() with two other answers", y.astray(), 2);
    }

    private static void otherValues() throws Exception {
        RingKeeper x = withLookings();
        for (int i = 0; i < 2; i++) {
            Object top = get(element(get(x, "store"), "chains", i), "top");
            field(top, "value").set(top, 77L);
        }
        due("astray() with two other values", x.astray(), 2);
        RingKeeper y = withLookings();
        Object top = get(element(get(y, "store"), "chains", 1), "top");
        field(top, "there").set(top, false);
        due("astray() with NOTHING for a value", y.astray(), 1);
    }

    public static void main(String[] args) throws Exception {
        rings();
        ringOfThree();
        ringOverReadOnly();
        otherAnswers();
        otherValues();
        System.out.println(wrong == 0 ? "all answers are as due" : wrong + " answers are not as due");
        if (wrong != 0) System.exit(1);
    }
}

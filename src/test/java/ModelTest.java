import java.util.Random;

/** Runs of calls by chance (with fixed seeds), each answer held against the Model's. */
public final class ModelTest {
    private static final int RUNS = 1500;
    private static int wrong = 0;

    interface Answer { long get(); }

    private static String told(Answer answer) {
        try {
            return Long.toString(answer.get());
        } catch (RuntimeException e) {
            return "throws." + e.getClass().getSimpleName();
        }
    }

    private final Random chance;
    private final RingKeeper x = new RingKeeper();
    private final Model m = new Model();
    private final StringBuilder log = new StringBuilder();
    private final int keys;
    private final int room;
    private final int readOnlyPart;
    private boolean bad = false;

    private ModelTest(long seed) {
        chance = new Random(seed);
        keys = 2 + chance.nextInt(8);
        room = chance.nextInt(8) == 0 ? 24 : 2 + chance.nextInt(5);
        readOnlyPart = chance.nextInt(5);
    }

    private void same(String call, Answer got, Answer want) {
        String a = told(got);
        String b = told(want);
        log.append(call).append(" -> ").append(b).append('\n');
        if (!a.equals(b)) {
            wrong++;
            if (!bad) System.out.println(log + "answered " + a);
            bad = true;
        }
    }

    private int someKey() {
        int c = chance.nextInt(40);
        if (c == 0) return Integer.MAX_VALUE;
        if (c == 1) return Integer.MIN_VALUE;
        if (c == 2) return Integer.MAX_VALUE - 1;
        if (c == 3) return Integer.MIN_VALUE + 1;
        return chance.nextInt(keys) - 1;
    }

    private int someTransaction() {
        if (chance.nextInt(60) == 0) return chance.nextInt(4) - 2 + (chance.nextBoolean() ? m.count(0) : 0);
        int among = chance.nextInt(Math.max(1, m.count(1)));
        for (int t = 1; t <= m.count(0); t++) {
            if (m.told(t, 0) == 1 && among-- == 0) return t;
        }
        return 1;
    }

    private void begin() {
        boolean readOnly = chance.nextInt(8) < readOnlyPart;
        same("begin(" + readOnly + ")", () -> x.begin(readOnly), () -> m.begin(readOnly));
    }

    private void look(int t) {
        int key = someKey();
        switch (chance.nextInt(4)) {
            case 0:
                boolean up = chance.nextBoolean();
                same("near(" + t + ", " + key + ", " + up + ")", () -> x.near(t, key, up), () -> m.near(t, key, up));
                break;
            case 1:
                int to = chance.nextInt(20) == 0 ? someKey() : (int) Math.min(Integer.MAX_VALUE, key + (long) chance.nextInt(4));
                int most = chance.nextInt(20) == 0 ? chance.nextInt(3) * 100 - 99 : chance.nextInt(4) == 0 ? 100 : 1 + chance.nextInt(3);
                same("scan(" + t + ", " + key + ", " + to + ", " + most + ")", () -> x.scan(t, key, to, most), () -> m.scan(t, key, to, most));
                break;
            default:
                same("read(" + t + ", " + key + ")", () -> x.read(t, key), () -> m.read(t, key));
        }
    }

    private void step() {
        int t = someTransaction();
        int key = someKey();
        int c = chance.nextInt(100);
        if (m.count(1) < room && c < 25) {
            begin();
        } else if (c < 50) {
            look(t);
        } else if (c < 68) {
            long value = chance.nextInt(100) - 20;
            same("write(" + t + ", " + key + ", " + value + ")", () -> x.write(t, key, value), () -> m.write(t, key, value));
        } else if (c < 74) {
            same("remove(" + t + ", " + key + ")", () -> x.remove(t, key), () -> m.remove(t, key));
        } else if (c < 78) {
            same("save(" + t + ")", () -> x.save(t), () -> m.save(t));
        } else if (c < 81) {
            int n = chance.nextInt(5);
            same("undo(" + t + ", " + n + ")", () -> x.undo(t, n), () -> m.undo(t, n));
        } else if (c < 96) {
            same("commit(" + t + ")", () -> x.commit(t), () -> m.commit(t));
        } else if (c < 98) {
            same("abort(" + t + ")", () -> { x.abort(t); return 0; }, () -> { m.abort(t); return 0; });
        } else {
            begin();
        }
    }

    private void compareState() {
        same("value()", x::value, m::value);
        same("key()", x::key, m::key);
        for (int i = -1; i <= 4; i++) {
            int n = i;
            same("rowKey(" + n + ")", () -> x.rowKey(n), () -> m.rowKey(n));
            same("rowValue(" + n + ")", () -> x.rowValue(n), () -> m.rowValue(n));
            same("why(" + n + ")", () -> x.why(n), () -> m.why(n));
        }
        for (int w = -1; w <= 12; w++) {
            int what = w;
            same("count(" + what + ")", () -> x.count(what), () -> m.count(what));
        }
        for (int t = -1; t <= m.count(0) + 1; t++) {
            for (int w = -1; w <= 9; w++) {
                int one = t;
                int what = w;
                same("told(" + one + ", " + what + ")", () -> x.told(one, what), () -> m.told(one, what));
            }
        }
        for (int k = -2; k < keys; k++) {
            for (int i = -1; i < 5; i++) {
                int key = k;
                int n = i;
                for (int w = -1; w <= 3; w++) {
                    int what = w;
                    same("version(" + key + ", " + n + ", " + what + ")", () -> x.version(key, n, what), () -> m.version(key, n, what));
                }
                same("versionValue(" + key + ", " + n + ")", () -> x.versionValue(key, n), () -> m.versionValue(key, n));
            }
        }
    }

    private void go() {
        int calls = 20 + chance.nextInt(120);
        for (int i = 0; i < calls && !bad; i++) {
            step();
            int mark = log.length();
            compareState();
            if (!bad) log.setLength(mark);
            if (chance.nextInt(20) == 0) same("astray()", x::astray, m::astray);
        }
        same("astray()", x::astray, m::astray);
        same("astray() is 0", x::astray, () -> 0);
    }

    public static void main(String[] args) {
        for (int seed = 1; seed <= RUNS && wrong == 0; seed++) {
            ModelTest run = new ModelTest(seed);
            run.go();
            if (run.bad) System.out.println("the run of seed " + seed);
        }
        System.out.println(wrong == 0 ? "all answers are as due" : wrong + " answers are not as due");
        if (wrong != 0) System.exit(1);
    }
}

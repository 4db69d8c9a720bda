/** The promises of the document, each by hand: ordinary inputs, the edges, wrong inputs. */
public final class PromisesTest extends Check {
    private static void newObject() {
        RingKeeper x = new RingKeeper();
        for (int what = 0; what <= 11; what++) due("count(" + what + ")", x.count(what), 0);
        due("value()", x.value(), 0);
        due("key()", x.key(), 0);
        due("astray()", x.astray(), 0);
        due("told(1, 0)", x.told(1, 0), NONE);
        dueRows(x);
        dueWhy(x, 0, 0, 0, 0, 0);
        for (int key : new int[] {MIN, -1, 0, 1, MAX}) {
            due("version", x.version(key, 0, 0), NONE);
            due("versionValue", x.versionValue(key, 0), 0);
            due("read", x.read(x.begin(false), key), 0);
            due("near", x.near(x.begin(false), key, true), 0);
            due("near", x.near(x.begin(false), key, false), 0);
            due("scan", x.scan(x.begin(false), MIN, MAX, 100), 0);
        }
        // Objects know nothing of one another.
        due("begin of another", new RingKeeper().begin(false), 1);
    }

    private static void begin() {
        RingKeeper x = with(1);
        for (int t = 2; t <= 25; t++) due("begin", x.begin(t % 2 == 0), t);
        due("begin of a 25th", x.begin(false), NONE);
        due("begin of a 25th", x.begin(true), NONE);
        due("count(0)", x.count(0), 25);
        due("count(1)", x.count(1), 24);
        x.abort(9);
        due("begin", x.begin(true), 26);
        due("begin", x.begin(true), NONE);
        x.commit(10);
        due("begin", x.begin(false), 27);
        dueTold(x, 26, 1, 1, 0, 0, 0, 0, 0, 1, 0);
        dueTold(x, 27, 1, 2, 0, 0, 0, 0, 0, 0, 0);
    }

    private static void read() {
        RingKeeper x = with(5, -5, MAX, MIN);
        int t = x.begin(false);
        due("read", x.read(t, 5), 1);
        due("value()", x.value(), 50);
        due("read", x.read(t, -5), 1);
        due("key()", x.key(), -5);
        due("read", x.read(t, 4), 0);
        due("read", x.read(t, MAX), 1);
        due("read", x.read(t, MIN), 1);
        due("runs", x.told(t, 6), 4);
        due("value()", x.value(), MIN * 10L);
        // Own writes are seen, and are not looked at.
        x.write(t, 7, 1);
        due("read own", x.read(t, 7), 1);
        due("value()", x.value(), 1);
        x.remove(t, 5);
        due("read own removal", x.read(t, 5), 0);
        due("key()", x.key(), 7);
        x.write(t, 9, 0);
        due("read own 0", x.read(t, 9), 1);
        due("runs", x.told(t, 6), 4);
        // What commits later is not seen; what is not committed neither.
        int u = x.begin(false);
        x.write(u, 4, 44);
        x.write(u, -5, 55);
        due("read", x.read(t, 4), 0);
        x.commit(u);
        due("read", x.read(t, 4), 0);
        due("read", x.read(t, -5), 1);
        due("value()", x.value(), -50);
        due("read of one that began behind", x.read(x.begin(false), -5), 1);
        due("value()", x.value(), 55);
        // With the write undone it does look.
        int s = x.begin(false);
        x.save(s);
        x.write(s, 1, 1);
        x.read(s, 1);
        due("runs", x.told(s, 6), 0);
        x.undo(s, 1);
        due("read undone", x.read(s, 1), 0);
        due("runs", x.told(s, 6), 1);
        dueOnlyActive("read", (y, n) -> y.read(n, 1));
    }

    private static void refusedLooking() {
        RingKeeper x = withPivot();
        due("commit(2)", x.commit(2), 0);
        due("out", x.told(2, 3), 1);
        due("read", x.read(1, 3), 0);
        due("read into danger", x.read(1, 2), NONE);
        dueTold(x, 1, 5, NONE, NONE, NONE, NONE);
        dueWhy(x, 2, 1, 2, 3, 0);
        due("count(5)", x.count(5), 1);
        dueThrow("read of an aborted one", "IllegalStateException", () -> x.read(1, 3));
        due("nothing found", x.value() + x.key(), 0);
        // A READ-ONLY one is refused only if OUT is not above its START.
        RingKeeper y = withPivot();
        int late = y.begin(true);
        due("commit(2)", y.commit(2), 0);
        due("unsafe", y.told(late, 7), 3);
        due("read", y.read(late, 1), 1);
        due("near", y.near(late, 2, true), NONE);
        dueWhy(y, 2, late, 2, 3);
        due("value()", y.value(), 10);
        RingKeeper z = new RingKeeper();
        z.begin(false);
        int early = z.begin(true);
        z.begin(false);
        z.read(1, 1);
        z.write(3, 1, 10);
        z.commit(3);
        z.write(1, 2, 20);
        due("commit(1)", z.commit(1), 0);
        due("read past a pivot", z.read(early, 2), 0);
        due("state", z.told(early, 7), 2);
    }

    private static void near() {
        RingKeeper x = with(1, 5, 9);
        int t = x.begin(false);
        due("near", x.near(t, 5, true), 1);
        due("key()", x.key(), 5);
        due("near", x.near(t, 6, true), 1);
        due("key()", x.key(), 9);
        due("value()", x.value(), 90);
        due("near", x.near(t, 5, false), 1);
        due("key()", x.key(), 5);
        due("near", x.near(t, 4, false), 1);
        due("key()", x.key(), 1);
        due("runs", x.told(t, 6), 1);
        due("near", x.near(t, 20, true), 0);
        due("near", x.near(t, -20, false), 0);
        due("key()", x.key(), 1);
        due("runs", x.told(t, 6), 3);
        due("near", x.near(t, MAX, false), 1);
        due("key()", x.key(), 9);
        due("runs", x.told(t, 6), 2);
        due("near", x.near(t, MIN, true), 1);
        due("runs", x.told(t, 6), 1);
        // Own writes and removals count, and are looked at.
        int u = x.begin(false);
        x.write(u, 3, 33);
        x.remove(u, 5);
        due("near", x.near(u, 2, true), 1);
        due("value()", x.value(), 33);
        due("near", x.near(u, 4, true), 1);
        due("key()", x.key(), 9);
        due("near", x.near(u, 8, false), 1);
        due("key()", x.key(), 3);
        due("runs", x.told(u, 6), 1);
        x.write(u, MAX, 1);
        x.write(u, MIN, 2);
        due("near", x.near(u, 10, true), 1);
        due("key()", x.key(), MAX);
        due("near", x.near(u, 0, false), 1);
        due("key()", x.key(), MIN);
        dueOnlyActive("near", (y, n) -> y.near(n, 1, true));
    }

    private static void nearLooksAtGaps() {
        // What it looks at decides which write makes it precede: from the key to the one found, both too.
        for (int key = 2; key <= 8; key++) {
            RingKeeper x = with(7);
            int t = x.begin(false);
            due("near", x.near(t, 3, true), 1);
            put(x, key);
            due("out of near up, write of " + key, x.told(t, 3), key >= 3 && key <= 7 ? 2 : 0);
            RingKeeper y = with(3);
            t = y.begin(false);
            due("near", y.near(t, 7, false), 1);
            put(y, key);
            due("out of near down, write of " + key, y.told(t, 3), key >= 3 && key <= 7 ? 2 : 0);
            RingKeeper z = with(5);
            t = z.begin(false);
            due("near", z.near(t, 6, true), 0);
            put(z, key);
            due("out of near to the end, write of " + key, z.told(t, 3), key >= 6 ? 2 : 0);
        }
    }

    private static void valueAndKey() {
        RingKeeper x = with(1, 2);
        int t = x.begin(false);
        at("promise 5");
        due("value()", x.value(), 0);
        x.read(t, 2);
        due("value()", x.value(), 20);
        x.write(t, 3, Long.MIN_VALUE);
        due("value() behind a write", x.value(), 20);
        x.read(t, 3);
        due("value()", x.value(), Long.MIN_VALUE);
        x.scan(t, 1, 3, 5);
        due("value() behind a scan", x.value(), Long.MIN_VALUE);
        x.read(t, 4);
        due("value() behind a read of nothing", x.value(), Long.MIN_VALUE);
        x.near(x.begin(true), 0, true);
        due("value() of another", x.value(), 10);
        x.abort(t);
        due("value() behind an abort", x.value(), 10);
        at("promise 6");
        RingKeeper y = with(1, 2);
        t = y.begin(false);
        due("key()", y.key(), 0);
        y.read(t, 2);
        due("key()", y.key(), 2);
        y.read(t, 4);
        y.near(t, 5, true);
        y.scan(t, 0, 1, 1);
        due("key()", y.key(), 2);
        y.near(t, MIN, true);
        due("key()", y.key(), 1);
    }

    private static void scan() {
        RingKeeper x = with(1, 3, 5, 7);
        int t = x.begin(false);
        due("scan", x.scan(t, 2, 6, 100), 2);
        dueRows(x, 3, 30, 5, 50);
        due("scan", x.scan(t, MIN, MAX, 3), 3);
        dueRows(x, 1, 10, 3, 30, 5, 50);
        due("scan", x.scan(t, 4, 4, 1), 0);
        dueRows(x);
        due("scan", x.scan(t, 7, 7, 1), 1);
        dueRows(x, 7, 70);
        x.write(t, 4, 44);
        x.remove(t, 5);
        x.write(t, 7, 77);
        due("scan with own writes", x.scan(t, 3, MAX, 100), 3);
        dueRows(x, 3, 30, 4, 44, 7, 77);
        for (int most : new int[] {MIN, -1, 0, 101, MAX}) {
            dueThrow("scan, most " + most, "IllegalArgumentException", () -> x.scan(2, 1, 2, most));
        }
        dueThrow("scan, from above to", "IllegalArgumentException", () -> x.scan(2, 2, 1, 1));
        dueThrow("scan, from above to", "IllegalArgumentException", () -> x.scan(2, MAX, MIN, 1));
        dueThrow("scan, not active and wrong", "IllegalStateException", () -> x.scan(1, 2, 1, 0));
        dueRows(x, 3, 30, 4, 44, 7, 77);
        dueOnlyActive("scan", (y, n) -> y.scan(n, 1, 2, 3));
    }

    private static void scanLooks() {
        // As many rows as asked: up to the last one's key; fewer: up to the end.
        for (int most = 1; most <= 3; most++) {
            for (int key = 0; key <= 9; key++) {
                RingKeeper x = with(2, 5);
                int t = x.begin(false);
                due("scan", x.scan(t, 1, 8, most), Math.min(most, 2));
                put(x, key);
                int end = most == 1 ? 2 : most == 2 ? 5 : 8;
                due("out of scan, most " + most + ", write of " + key, x.told(t, 3), key >= 1 && key <= end ? 2 : 0);
            }
        }
        RingKeeper x = new RingKeeper();
        int t = x.begin(false);
        for (int key = 0; key < 120; key++) x.write(t, key, key);
        due("scan of 100", x.scan(t, MIN, MAX, 100), 100);
        due("rowKey(99)", x.rowKey(99), 99);
        dueThrow("rowKey(100)", "NoSuchElementException", () -> x.rowKey(100));
        // The rows stay if a scan is refused.
        RingKeeper y = withPivot();
        y.commit(2);
        int u = y.begin(false);
        due("scan", y.scan(u, 0, 2, 9), 2);
        due("scan into danger", y.scan(1, 0, 9, 9), NONE);
        dueRows(y, 1, 10, 2, 20);
        dueWhy(y, 2, 1, 2, 3);
        // Up to the last row's key there is no danger.
        RingKeeper z = new RingKeeper();
        z.begin(false);
        z.begin(false);
        z.begin(false);
        z.read(2, 1);
        z.write(2, 5, 50);
        z.write(3, 1, 10);
        z.commit(3);
        z.commit(2);
        z.write(1, 4, 40);
        due("scan just short of danger", z.scan(1, 2, 9, 1), 1);
        due("scan into danger", z.scan(1, 2, 9, 2), NONE);
    }

    private static void rows() {
        RingKeeper x = with(4, 6);
        int t = x.begin(true);
        x.scan(t, 0, 9, 9);
        x.abort(t);
        for (int who = 8; who <= 9; who++) {
            at("promise " + who);
            dueRows(x, 4, 40, 6, 60);
            for (int i : new int[] {MIN, -1, 2, 100, MAX}) {
                dueThrow("rowKey(" + i + ")", "NoSuchElementException", () -> x.rowKey(i));
                dueThrow("rowValue(" + i + ")", "NoSuchElementException", () -> x.rowValue(i));
            }
        }
        put(x, 5);
        dueRows(x, 4, 40, 6, 60);
        int u = x.begin(false);
        x.scan(u, 5, 5, 1);
        dueRows(x, 5, 50);
        x.write(u, 5, 1);
        dueRows(x, 5, 50);
    }

    private static void writeAndRemove() {
        at("promise 10");
        RingKeeper x = with(1);
        int t = x.begin(false);
        due("write", x.write(t, 1, 5), 1);
        due("write", x.write(t, MIN, Long.MAX_VALUE), 2);
        due("write again", x.write(t, 1, 6), 2);
        due("write", x.write(t, MAX, 0), 3);
        due("wrote", x.told(t, 5), 3);
        due("own until the commit", x.read(x.begin(false), MAX), 0);
        x.commit(t);
        int u = x.begin(false);
        due("read", x.read(u, 1), 1);
        due("value()", x.value(), 6);
        due("read", x.read(u, MIN), 1);
        due("value()", x.value(), Long.MAX_VALUE);
        int r = x.begin(true);
        dueThrow("write of a READ-ONLY one", "UnsupportedOperationException", () -> x.write(r, 1, 1));
        x.commit(r);
        dueThrow("write of an ended READ-ONLY one", "IllegalStateException", () -> x.write(r, 1, 1));
        dueOnlyActive("write", (y, n) -> y.write(n, 1, 1));
        at("promise 11");
        due("remove", x.remove(u, 1), 1);
        due("remove of nothing", x.remove(u, 77), 2);
        due("remove again", x.remove(u, 77), 2);
        due("read", x.read(u, 1), 0);
        due("commit", x.commit(u), 0);
        due("read", x.read(x.begin(false), 1), 0);
        due("a version of NOTHING", x.version(77, 0, 1), 0);
        int s = x.begin(true);
        dueThrow("remove of a READ-ONLY one", "UnsupportedOperationException", () -> x.remove(s, 1));
        dueOnlyActive("remove", (y, n) -> y.remove(n, 1));
    }

    private static void saveAndUndo() {
        at("promise 12");
        RingKeeper x = with(1);
        int t = x.begin(false);
        for (int n = 1; n <= 10; n++) due("save", x.save(t), n);
        due("save of an 11th", x.save(t), NONE);
        due("places", x.told(t, 8), 10);
        due("undo", x.undo(t, 9), 0);
        due("save", x.save(t), 10);
        due("save of a READ-ONLY one", x.save(x.begin(true)), 1);
        dueOnlyActive("save", (y, n) -> y.save(n));
        at("promise 13");
        RingKeeper y = with(1);
        int u = y.begin(false);
        dueThrow("undo without a place", "IndexOutOfBoundsException", () -> y.undo(u, 1));
        y.write(u, 1, 100);
        y.save(u);
        y.write(u, 1, 101);
        y.write(u, 2, 102);
        y.save(u);
        y.remove(u, 1);
        y.write(u, 3, 103);
        y.read(u, 9);
        for (int n : new int[] {MIN, -1, 0, 3, MAX}) {
            dueThrow("undo " + n, "IndexOutOfBoundsException", () -> y.undo(u, n));
        }
        due("undo", y.undo(u, 2), 2);
        due("places", y.told(u, 8), 2);
        due("runs stay", y.told(u, 6), 1);
        y.read(u, 1);
        due("value()", y.value(), 101);
        due("undo of nothing", y.undo(u, 2), 2);
        due("undo", y.undo(u, 1), 1);
        due("places", y.told(u, 8), 1);
        dueThrow("undo of a place that went", "IndexOutOfBoundsException", () -> y.undo(u, 2));
        y.read(u, 1);
        due("value()", y.value(), 100);
        due("write", y.write(u, 2, 7), 2);
        due("the place stays", y.undo(u, 1), 1);
        due("commit", y.commit(u), 0);
        due("versionValue", y.versionValue(1, 0), 100);
        due("version of an undone key", y.version(2, 0, 0), NONE);
        dueThrow("undo of an ended one", "IllegalStateException", () -> y.undo(u, 9));
        int r = y.begin(true);
        y.save(r);
        due("undo of a READ-ONLY one", y.undo(r, 1), 0);
        dueOnlyActive("undo", (z, n) -> z.undo(n, 1));
    }

    private static void commit() {
        // The keys that were undone make no conflict, and no one precedes by them.
        RingKeeper x = with(1, 2);
        int t = x.begin(false);
        x.save(t);
        x.write(t, 1, 5);
        x.undo(t, 1);
        put(x, 1);
        due("commit", x.commit(t), 0);
        due("moment", x.count(11), 3);
        // A removal conflicts as a value does, and a conflict is asked ahead of danger.
        RingKeeper y = withPivot();
        y.write(2, 1, 5);
        y.read(1, 2);
        due("commit into both", y.commit(2), 1);
        dueWhy(y, 1, 2, 3, 1);
        // A → 2 → 3 with 3 committed first.
        RingKeeper z = withPivot();
        z.read(1, 6);
        due("commit into danger", z.commit(2), 2);
        dueWhy(z, 2, 1, 2, 3);
        due("nothing is stored", z.version(2, 0, 0), NONE);
        due("count(11)", z.count(11), 1);
        // A ring of two: the one ahead is the one whose moment is OUT.
        RingKeeper w = new RingKeeper();
        w.begin(false);
        w.begin(false);
        w.read(1, 1);
        w.read(2, 2);
        w.write(1, 2, 1);
        w.write(2, 1, 1);
        due("commit(1)", w.commit(1), 0);
        due("commit(2)", w.commit(2), 2);
        dueWhy(w, 2, 1, 2, 1);
        // The one ahead was committed ahead of all: no ring can close.
        RingKeeper u = new RingKeeper();
        u.begin(false);
        u.begin(false);
        u.begin(false);
        u.read(1, 2);
        due("commit(1)", u.commit(1), 0);
        u.read(2, 1);
        u.write(2, 2, 20);
        u.write(3, 1, 10);
        due("commit(3)", u.commit(3), 0);
        due("commit(2)", u.commit(2), 0);
        due("commit twice throws; state", u.told(2, 0), 2);
        // A READ-ONLY one commits always and has a moment.
        int r = u.begin(true);
        u.read(r, 1);
        due("commit of a READ-ONLY one", u.commit(r), 0);
        due("count(11)", u.count(11), 4);
        dueOnlyActive("commit", (v, n) -> v.commit(n));
    }

    private static void commitBesideReadOnly() {
        // Refused if OUT is not above the READ-ONLY one's START, else not.
        for (int late = 0; late <= 1; late++) {
            RingKeeper x = new RingKeeper();
            x.begin(false);
            x.begin(false);
            int r = late == 0 ? x.begin(true) : 0;
            x.read(1, 1);
            x.write(2, 1, 10);
            x.commit(2);
            r = late == 1 ? x.begin(true) : r;
            x.read(r, 2);
            x.write(1, 2, 20);
            due("commit beside READ-ONLY, late " + late, x.commit(1), late == 1 ? 2 : 0);
            due("state of the READ-ONLY one", x.told(r, 7), 2);
            due("astray()", x.commit(r) + x.astray(), 0);
        }
    }

    private static void abort() {
        RingKeeper x = with(1);
        int t = x.begin(false);
        x.write(t, 1, 5);
        x.write(t, 2, 5);
        x.abort(t);
        dueTold(x, t, 3, NONE, NONE, NONE, NONE, NONE, NONE, NONE, NONE);
        due("count(3)", x.count(3), 1);
        due("count(1)", x.count(1), 0);
        dueThrow("abort again", "IllegalStateException", () -> x.abort(t));
        due("versions", x.count(8), 1);
        dueWhy(x, 0, 0, 0, 0);
        // One that is given up precedes none.
        RingKeeper y = withPivot();
        y.read(1, 2);
        y.abort(1);
        due("commit", y.commit(2), 0);
        dueOnlyActive("abort", (z, n) -> z.abort(n));
    }

    private static void told() {
        RingKeeper x = with(1);
        due("not kept: state", x.told(1, 0), 2);
        due("not kept: start", x.told(1, 1), NONE);
        int t = x.begin(false);
        int u = x.begin(false);
        x.save(u);
        x.read(t, 1);
        x.read(t, 2);
        x.read(t, 4);
        x.write(u, 1, 1);
        x.write(u, 2, 2);
        dueTold(x, u, 1, 1, 0, 0, 0, 2, 0, 0, 1, NONE);
        x.commit(u);
        dueTold(x, t, 1, 1, 0, 2, 0, 0, 2, 0, 0, NONE);
        dueTold(x, u, 2, 1, 2, 0, 1, 2, 0, 0, 1, NONE);
        x.abort(t);
        dueTold(x, u, 2, NONE, NONE, NONE, NONE, NONE);
        for (int n : new int[] {MIN, -1, 0, 4, MAX}) dueTold(x, n, NONE, NONE, NONE);
        for (int what : new int[] {MIN, -1, 9, MAX}) due("told(" + what + ")", x.told(x.begin(false), what), NONE);
        // Preceded also by one that looks later, and by one that was aborted since.
        RingKeeper y = new RingKeeper();
        y.begin(false);
        y.begin(false);
        put(y, 1);
        due("preceded", y.told(3, 4), 0);
        y.read(1, 1);
        due("preceded", y.told(3, 4), 1);
        due("out", y.told(1, 3), 1);
        y.abort(1);
        due("preceded", y.told(3, 4), 1);
        // OUT is the least moment, and counts those ahead of the own moment alone.
        put(y, 2);
        put(y, 3);
        y.read(2, 3);
        due("out", y.told(2, 3), 3);
        y.read(2, 2);
        due("out", y.told(2, 3), 2);
        y.read(2, 9);
        int hold = y.begin(false);
        y.commit(2);
        due("out", y.told(2, 3), 2);
        put(y, 9);
        due("out of one that is COMMITTED", y.told(2, 3), 2);
        due("state of the holder", y.told(hold, 0), 1);
    }

    private static void readOnlyKinds() {
        RingKeeper x = with(1);
        due("SAFE at once", x.told(x.begin(true), 7), 2);
        int w = x.begin(false);
        due("awaits", x.told(x.begin(true), 7), 1);
        due("a READ-ONLY one is not awaited", x.told(2, 7), 2);
        int v = x.begin(false);
        int r = x.begin(true);
        x.read(r, 1);
        x.read(r, 3);
        due("runs", x.told(r, 6), 2);
        x.abort(w);
        due("SAFE: one that awaits no other", x.told(4, 7), 2);
        due("awaits another", x.told(r, 7), 1);
        int later = x.begin(false);
        x.commit(v);
        due("SAFE", x.told(r, 7), 2);
        due("no READ KEYS", x.told(r, 6), 0);
        x.read(r, 5);
        due("none from then on", x.told(r, 6), 0);
        x.commit(r);
        due("SAFE when COMMITTED", x.told(r, 7), 2);
        due("none when COMMITTED", x.told(r, 6), 0);
        due("still ACTIVE", x.told(later, 0), 1);
        // As it was when it was COMMITTED.
        RingKeeper y = new RingKeeper();
        y.begin(false);
        y.begin(true);
        y.read(2, 1);
        y.begin(false);
        y.commit(2);
        y.commit(1);
        due("told(2, 7)", y.told(2, 7), 1);
        due("told(2, 6)", y.told(2, 6), 1);
        // UNSAFE for good; it keeps its READ KEYS.
        RingKeeper z = withPivot();
        int s = z.begin(true);
        z.read(s, 9);
        z.commit(2);
        due("UNSAFE", z.told(s, 7), 3);
        z.abort(1);
        due("UNSAFE for good", z.told(s, 7), 3);
        due("runs", z.told(s, 6), 1);
        // OUT goes with the READ KEYS.
        RingKeeper u = new RingKeeper();
        u.begin(false);
        u.begin(true);
        u.read(2, 1);
        put(u, 1);
        due("out", u.told(2, 3), 1);
        u.commit(1);
        due("out of a SAFE one", u.told(2, 3), 0);
    }

    private static void why() {
        RingKeeper x = with(1, 2, 3);
        int t = x.begin(false);
        int u = x.begin(false);
        x.write(t, 3, 1);
        x.write(t, 2, 1);
        x.write(t, 1, 1);
        int p = put(x, 3);
        int q = put(x, 2);
        put(x, 2);
        due("commit", x.commit(t), 1);
        dueWhy(x, 1, t, q, 2, 0);
        due("told", x.told(t, 0), 4);
        x.abort(u);
        dueWhy(x, 1, t, q, 2);
        due("p came ahead of q", p < q ? 1 : 0, 1);
        for (int what : new int[] {MIN, -1, 4, MAX}) due("why(" + what + ")", x.why(what), 0);
        // By a commit: A with the least number, be it COMMITTED or ACTIVE.
        RingKeeper y = withPivot();
        int a = y.begin(false);
        y.read(a, 6);
        y.read(1, 2);
        y.commit(a);
        due("commit", y.commit(2), 2);
        dueWhy(y, 2, 1, 2, 3);
        RingKeeper z = withPivot();
        a = z.begin(false);
        int b = z.begin(false);
        z.read(b, 6);
        z.read(a, 2);
        z.commit(a);
        due("commit", z.commit(2), 2);
        dueWhy(z, 2, a, 2, 3);
        // By a looking: B with the least moment, whatever its key.
        RingKeeper v = new RingKeeper();
        for (int i = 0; i < 4; i++) v.begin(false);
        v.read(2, 1);
        v.read(3, 1);
        v.write(4, 1, 1);
        v.commit(4);
        v.write(3, 8, 1);
        v.write(2, 7, 1);
        v.commit(3);
        v.commit(2);
        due("scan", v.scan(1, 5, 9, 9), NONE);
        dueWhy(v, 2, 1, 3, 4);
    }

    private static void versions() {
        RingKeeper x = with(1);
        int hold = x.begin(true);
        put(x, 1);
        int r = x.begin(false);
        x.remove(r, 1);
        x.commit(r);
        at("promise 18");
        int[][] dueVersions = {{3, 0, r, NONE}, {2, 1, 3, NONE}, {1, 1, 1, NONE}, {NONE, NONE, NONE, NONE}};
        for (int i = 0; i < 4; i++) {
            for (int what = 0; what < 4; what++) {
                due("version(1, " + i + ", " + what + ")", x.version(1, i, what), dueVersions[i][what]);
            }
        }
        for (int i : new int[] {MIN, -1, MAX}) due("version " + i, x.version(1, i, 0), NONE);
        for (int what : new int[] {MIN, -1, MAX}) due("version " + what, x.version(1, 0, what), NONE);
        due("version of another key", x.version(2, 0, 0), NONE);
        at("promise 19");
        due("versionValue of NOTHING", x.versionValue(1, 0), 0);
        due("versionValue", x.versionValue(1, 1), 10);
        for (int i : new int[] {MIN, -1, 3, MAX}) due("versionValue " + i, x.versionValue(1, i), 0);
        due("count(8)", x.count(8), 3);
        due("count(9)", x.count(9), 1);
        x.commit(hold);
        at("promise 18");
        // NOTHING that is not above the horizon is not kept.
        due("version", x.version(1, 0, 0), NONE);
        due("count(8)", x.count(8), 0);
        due("count(9)", x.count(9), 0);
        put(x, 1);
        put(x, 1);
        due("only the latest", x.version(1, 1, 0), NONE);
        due("version", x.version(1, 0, 0), 6);
        at("promise 19");
        due("versionValue", x.versionValue(1, 1), 0);
        due("versionValue", x.versionValue(1, 0), 10);
    }

    private static void count() {
        RingKeeper x = with(1, 2);
        int a = x.begin(false);
        int b = x.begin(false);
        int c = x.begin(false);
        x.read(a, 1);
        x.read(a, 3);
        x.write(b, 4, 1);
        x.write(c, 4, 1);
        x.read(b, 9);
        x.commit(b);
        x.commit(c);
        x.abort(x.begin(false));
        int[] want = {5, 1, 2, 1, 1, 0, 1, 3, 3, 3, 1, 2};
        for (int what = 0; what < want.length; what++) due("count(" + what + ")", x.count(what), want[what]);
        for (int what : new int[] {MIN, -1, 12, MAX}) due("count(" + what + ")", x.count(what), NONE);
        int late = x.begin(true);
        due("horizon", x.count(10), 1);
        x.abort(a);
        due("horizon", x.count(10), 2);
        due("kept", x.count(6), 0);
        due("runs", x.count(7), 0);
        put(x, 1);
        due("horizon", x.count(10), 2);
        due("kept", x.count(6), 1);
        due("versions", x.count(8), 4);
        x.commit(late);
        due("horizon", x.count(10), 4);
        due("versions", x.count(8), 3);
    }

    private static void astray() {
        // An order other than that of the commits is the only one: a READ-WRITE one ahead of what it did not see.
        RingKeeper x = with(1, 2, 3);
        int t = x.begin(false);
        x.scan(t, 1, 9, 9);
        x.near(t, 4, true);
        x.save(t);
        x.remove(t, 2);
        x.read(t, 2);
        x.undo(t, 1);
        x.read(t, 2);
        x.write(t, 8, 80);
        put(x, 1);
        put(x, 4);
        due("commit", x.commit(t), 0);
        due("astray()", x.astray(), 0);
        due("astray() again", x.astray(), 0);
        put(x, 8);
        due("astray()", x.astray(), 0);
    }

    private static void manyCalls() {
        // 512 calls do all that they should, and later ones throw nothing but what the document names.
        RingKeeper x = new RingKeeper();
        int t = x.begin(false);
        for (int i = 1; i < 511; i++) due("write", x.write(t, -i, i), i);
        due("commit", x.commit(t), 0);
        due("versionValue", x.versionValue(-510, 0), 510);
        RingKeeper y = new RingKeeper();
        for (int i = 1; i <= 256; i++) {
            due("begin", y.begin(i % 3 == 0), i);
            due("commit", y.commit(i), 0);
        }
        due("count(2)", y.count(2), 256);
        due("astray()", y.astray(), 0);
        RingKeeper z = new RingKeeper();
        java.util.Random chance = new java.util.Random(7);
        for (int i = 0; i < 20000; i++) {
            try {
                anyCall(z, chance);
            } catch (IllegalStateException | IllegalArgumentException | UnsupportedOperationException e) {
                continue;
            } catch (java.util.NoSuchElementException e) {
                continue;
            } catch (IndexOutOfBoundsException e) {
                due("a machine's exception", e.getClass() == IndexOutOfBoundsException.class ? 0 : 1, 0);
            }
        }
        due("astray()", z.astray(), 0);
        // Not the document's word but the README's: nothing more is kept then.
        for (int i = 0; i < 2000; i++) {
            int u = z.begin(false);
            if (u != NONE) z.abort(u);
        }
        due("more than 512 begun", z.count(0) > 512 ? 1 : 0, 0);
        RingKeeper v = new RingKeeper();
        int w = v.begin(false);
        for (int i = 0; i < 2000; i++) v.write(w, i, i);
        due("wrote", v.told(w, 5), 511);
        due("write beyond", v.write(w, 5000, 1), NONE);
    }

    private static void anyCall(RingKeeper x, java.util.Random chance) {
        int t = Math.max(1, x.count(0) - chance.nextInt(24));
        int key = chance.nextInt(6);
        switch (chance.nextInt(14)) {
            case 0: case 1: x.begin(chance.nextInt(4) == 0); break;
            case 2: x.read(t, key); break;
            case 3: x.near(t, key, chance.nextBoolean()); break;
            case 4: x.scan(t, key, key + 3, 2); break;
            case 5: case 6: x.write(t, key, key); break;
            case 7: x.remove(t, key); break;
            case 8: x.save(t); break;
            case 9: x.undo(t, chance.nextInt(4)); break;
            case 10: x.commit(t); break;
            case 11: x.abort(t); break;
            case 12: x.astray(); break;
            default: x.rowKey(chance.nextInt(3)); x.rowValue(chance.nextInt(3)); break;
        }
    }

    private static void under(int number, Step step) {
        at("promise " + number);
        step.run();
    }

    public static void main(String[] args) {
        under(1, PromisesTest::newObject);
        under(2, PromisesTest::begin);
        under(3, PromisesTest::read);
        under(3, PromisesTest::refusedLooking);
        under(4, PromisesTest::near);
        under(4, PromisesTest::nearLooksAtGaps);
        under(5, PromisesTest::valueAndKey);
        under(7, PromisesTest::scan);
        under(7, PromisesTest::scanLooks);
        under(8, PromisesTest::rows);
        under(10, PromisesTest::writeAndRemove);
        under(12, PromisesTest::saveAndUndo);
        under(14, PromisesTest::commit);
        under(14, PromisesTest::commitBesideReadOnly);
        under(15, PromisesTest::abort);
        under(16, PromisesTest::told);
        under(16, PromisesTest::readOnlyKinds);
        under(17, PromisesTest::why);
        under(18, PromisesTest::versions);
        under(20, PromisesTest::count);
        under(21, PromisesTest::astray);
        under(0, PromisesTest::manyCalls);
        end();
    }
}

import java.util.function.BiConsumer;

/** The boundary cases of promises 1 to 15, each sentence with a test of its own. */
public final class CallsEdgesTest extends Check {
    /** 1 holds the HORIZON; 2 has ended by a commit, 3 is given up, 4 by a conflict, 5 by a danger; 7 is READ-ONLY. */
    private static RingKeeper withEnded() {
        RingKeeper x = new RingKeeper();
        x.begin(true);
        for (int t = 2; t <= 6; t++) x.begin(false);
        x.read(6, 1);
        x.write(2, 1, 10);
        x.commit(2);
        x.abort(3);
        x.write(4, 1, 11);
        due("commit(4)", x.commit(4), 1);
        x.write(6, 2, 20);
        x.commit(6);
        due("read(5, 2)", x.read(5, 2), NONE);
        x.begin(true);
        x.save(7);
        return x;
    }

    /** IllegalStateException for each number that is not ACTIVE, with nothing changed. */
    private static void onlyActive(String call, BiConsumer<RingKeeper, Integer> step) {
        edge("IllegalStateException: t is not ACTIVE (" + call + ")", () -> {
            RingKeeper x = withEnded();
            for (int t : new int[] {MIN, -1, 0, 2, 3, 4, 5, 8, MAX}) {
                dueThrowAlone(x, call + " of " + t, "IllegalStateException", () -> step.accept(x, t));
            }
        });
    }

    private static void newObject() {
        at("promise 1");
        edge("No transactions", () -> {
            RingKeeper x = new RingKeeper();
            for (int what = 0; what <= 11; what++) due("count(" + what + ")", x.count(what), 0);
            for (int t : new int[] {MIN, -1, 0, 1, MAX}) dueTold(x, t, NONE, NONE, NONE);
        });
        edge("NOTHING under all keys", () -> {
            RingKeeper x = new RingKeeper();
            x.begin(false);
            for (int key : new int[] {MIN, -1, 0, 1, MAX}) {
                due("read", x.read(1, key), 0);
                due("version", x.version(key, 0, 0), NONE);
                due("versionValue", x.versionValue(key, 0), 0);
            }
            due("near", x.near(1, MIN, true), 0);
            due("near", x.near(1, MAX, false), 0);
            due("scan", x.scan(1, MIN, MAX, 100), 0);
            due("astray()", x.astray(), 0);
        });
    }

    private static void begin() {
        at("promise 2");
        edge("its number", () -> {
            RingKeeper x = new RingKeeper();
            for (int t = 1; t <= 100; t++) {
                due("begin", x.begin(t % 2 == 0), t);
                x.abort(t);
            }
        });
        edge("READ-ONLY or READ-WRITE", () -> {
            RingKeeper x = new RingKeeper();
            due("kind", x.told(x.begin(false), 7), 0);
            due("kind", x.told(x.begin(true), 7), 1);
        });
        for (boolean readOnly : new boolean[] {false, true}) {
            edge("NONE if 24 are ACTIVE (READ-ONLY: " + readOnly + ")", () -> {
                RingKeeper x = new RingKeeper();
                for (int t = 1; t <= 23; t++) x.begin(readOnly);
                due("the 24th", x.begin(readOnly), 24);
                String before = state(x);
                due("the 25th", x.begin(readOnly), NONE);
                due("the 25th of the other kind", x.begin(!readOnly), NONE);
                dueSame("a begin that is refused", before, state(x));
            });
        }
    }

    private static void read() {
        at("promise 3");
        edge("1 if it SEES a value there (the value 0)", () -> {
            RingKeeper x = with(0);
            due("read", x.read(x.begin(false), 0), 1);
        });
        edge("which is FOUND, under this key", () -> {
            RingKeeper x = with(5, 6);
            x.begin(false);
            x.read(2, 6);
            dueFound(x, 6, 60);
            x.write(2, 7, 71);
            x.read(2, 7);
            dueFound(x, 7, 71);
        });
        edge("0 if NOTHING", () -> {
            RingKeeper x = with(5, 6);
            int removed = drop(x, 5);
            int t = x.begin(false);
            x.read(t, 6);
            due("read of a key that was removed", x.read(t, 5), 0);
            due("read of a key never written", x.read(t, 4), 0);
            x.remove(t, 6);
            due("read of its own NOTHING", x.read(t, 6), 0);
            dueFound(x, 6, 60);
            due("the remover", x.told(removed, 0), 2);
        });
        edge("It looks at the key", () -> {
            for (int key = 4; key <= 6; key++) {
                RingKeeper x = new RingKeeper();
                x.begin(false);
                x.read(1, 5);
                put(x, key);
                due("OUT, write of " + key, x.told(1, 3), key == 5 ? 1 : 0);
            }
        });
        edge("if it has a write of its own there at none", () -> {
            RingKeeper x = with(5, 6);
            x.begin(false);
            x.write(2, 5, 1);
            x.remove(2, 6);
            due("read", x.read(2, 5), 1);
            due("read", x.read(2, 6), 0);
            due("RUNS", x.told(2, 6), 0);
            RingKeeper y = withTrap();
            y.write(1, 2, 5);
            due("read, where a looking would be refused", y.read(1, 2), 1);
            dueFound(y, 2, 5);
        });
        edge("a write of its own there (that was not undone)", () -> {
            RingKeeper x = with(5);
            x.begin(false);
            x.save(2);
            x.write(2, 5, 1);
            x.undo(2, 1);
            due("read", x.read(2, 5), 1);
            dueFound(x, 5, 50);
            due("RUNS", x.told(2, 6), 1);
        });
        edge("NONE by DANGER", () -> {
            RingKeeper x = withTrap();
            due("read", x.read(1, 2), NONE);
            dueFound(x, 0, 0);
            due("state", x.told(1, 0), 5);
        });
        onlyActive("read", (x, t) -> x.read(t, 1));
        edge("IllegalStateException .. ahead of all else", () -> {
            RingKeeper x = withEnded();
            x.commit(7);
            for (int t : new int[] {0, 2, 3, 4, 5, 7, 8}) {
                dueThrow("scan, from above to", "IllegalStateException", () -> x.scan(t, 2, 1, 1));
                dueThrow("scan, most 0", "IllegalStateException", () -> x.scan(t, 1, 2, 0));
                dueThrow("undo, no place", "IllegalStateException", () -> x.undo(t, 5));
                dueThrow("write", "IllegalStateException", () -> x.write(t, 1, 1));
                dueThrow("remove", "IllegalStateException", () -> x.remove(t, 1));
            }
        });
    }

    /** After the looking of 2 each of these keys is written by one of its own; OUT tells whether it was looked at. */
    private static void dueLookedAt(String call, int[] stored, BiConsumer<RingKeeper, Integer> looking, int low, int high) {
        long[] keys = {low - 1L, low, low + (high - (long) low) / 2, high, high + 1L, MIN, MAX};
        for (long key : keys) {
            if (key < MIN || key > MAX) continue;
            RingKeeper x = with(stored);
            x.begin(false);
            looking.accept(x, 2);
            due("RUNS of " + call, x.told(2, 6), 1);
            int w = x.begin(false);
            x.write(w, (int) key, 1);
            x.commit(w);
            due("OUT of " + call + ", write of " + key, x.told(2, 3), key >= low && key <= high ? 2 : 0);
        }
    }

    private static void dueNear(RingKeeper x, int t, int key, boolean up, int want) {
        due("near(" + key + ", " + up + ")", x.near(t, key, up), 1);
        due("key()", x.key(), want);
    }

    private static void near() {
        at("promise 4");
        edge("from a key on (that one, too)", () -> {
            RingKeeper x = with(1, 5, 9);
            dueNear(x, x.begin(false), 5, true, 5);
            dueNear(x, x.begin(false), 5, false, 5);
            dueFound(x, 5, 50);
        });
        edge("up or down", () -> {
            RingKeeper x = with(1, 5, 9);
            int t = x.begin(false);
            dueNear(x, t, 2, true, 5);
            dueNear(x, t, 6, true, 9);
            dueNear(x, t, 4, false, 1);
            dueNear(x, t, 8, false, 5);
        });
        edge("up or down (at the ends of the ints)", () -> {
            RingKeeper x = with(MIN, MAX);
            int t = x.begin(false);
            dueNear(x, t, MIN, false, MIN);
            dueNear(x, t, MIN, true, MIN);
            dueNear(x, t, MAX, true, MAX);
            dueNear(x, t, MAX, false, MAX);
            dueNear(x, t, 0, true, MAX);
            dueNear(x, t, 0, false, MIN);
            dueNear(x, t, MIN + 1, true, MAX);
            dueNear(x, t, MAX - 1, false, MIN);
        });
        edge("under which t SEES a value (not NOTHING, not what came later)", () -> {
            RingKeeper x = with(3, 5, 7);
            drop(x, 5);
            int t = x.begin(false);
            put(x, 4, 6);
            x.remove(t, 3);
            x.write(t, 2, 0);
            dueNear(x, t, 3, true, 7);
            dueNear(x, t, 6, false, 2);
        });
        edge("0 if there is none", () -> {
            RingKeeper x = with(5);
            x.begin(false);
            x.read(2, 5);
            due("near", x.near(2, 6, true), 0);
            due("near", x.near(2, 4, false), 0);
            dueFound(x, 5, 50);
            RingKeeper y = with(MIN, MAX);
            y.begin(false);
            y.remove(2, MAX);
            y.remove(2, MIN);
            due("near at the end", y.near(2, MAX, true), 0);
            due("near at the end", y.near(2, MIN, false), 0);
            due("near over all", y.near(2, MIN, true), 0);
            due("near over all", y.near(2, MAX, false), 0);
        });
        edge("It looks at all keys from this one to that", () -> {
            dueLookedAt("near up", new int[] {7}, (x, t) -> x.near(t, 3, true), 3, 7);
            dueLookedAt("near down", new int[] {3}, (x, t) -> x.near(t, 7, false), 3, 7);
            dueLookedAt("near, found at once", new int[] {5}, (x, t) -> x.near(t, 5, true), 5, 5);
            dueLookedAt("near, found at once", new int[] {5}, (x, t) -> x.near(t, 5, false), 5, 5);
            dueLookedAt("near to the last int", new int[] {MAX}, (x, t) -> x.near(t, 5, true), 5, MAX);
            dueLookedAt("near to the first int", new int[] {MIN}, (x, t) -> x.near(t, 5, false), MIN, 5);
        });
        edge("those with writes of its own, too", () -> {
            dueLookedAt("near, its own found", new int[] {9}, (x, t) -> {
                x.write(t, 5, 1);
                x.near(t, 5, true);
            }, 5, 5);
            dueLookedAt("near over its own NOTHING", new int[] {3, 5, 7}, (x, t) -> {
                x.remove(t, 5);
                x.near(t, 4, true);
            }, 4, 7);
            RingKeeper x = withTrap();
            x.write(1, 2, 5);
            due("near, where a looking is refused", x.near(1, 2, true), NONE);
        });
        edge("with 0 at all to the end of the ints", () -> {
            dueLookedAt("near up, none", new int[] {5}, (x, t) -> x.near(t, 6, true), 6, MAX);
            dueLookedAt("near down, none", new int[] {5}, (x, t) -> x.near(t, 4, false), MIN, 4);
            dueLookedAt("near up, none", new int[] {5}, (x, t) -> x.near(t, MAX, true), MAX, MAX);
            dueLookedAt("near down, none", new int[] {5}, (x, t) -> x.near(t, MIN, false), MIN, MIN);
            dueLookedAt("near up, none", new int[0], (x, t) -> x.near(t, MIN, true), MIN, MAX);
            dueLookedAt("near down, none", new int[0], (x, t) -> x.near(t, MAX, false), MIN, MAX);
        });
        edge("NONE by DANGER", () -> {
            RingKeeper x = withTrap();
            x.write(1, 4, 40);
            dueNear(x, 1, 3, true, 4);
            dueNear(x, 1, 5, false, 4);
            due("near up", x.near(1, 5, true), NONE);
            due("state", x.told(1, 0), 5);
            dueFound(x, 4, 40);
            RingKeeper y = withTrap();
            due("near down", y.near(1, 3, false), NONE);
            dueFound(y, 0, 0);
        });
        onlyActive("near", (x, t) -> x.near(t, 1, true));
    }

    private static void found() {
        at("promise 5");
        edge("The value .. 0 ahead of any", () -> {
            RingKeeper x = with(5);
            x.begin(false);
            x.read(2, 4);
            x.near(2, 6, true);
            x.scan(2, 0, 9, 9);
            x.write(2, 1, 7);
            due("value()", x.value(), 0);
        });
        edge("The value that was FOUND latest", () -> {
            RingKeeper x = with(5, 6);
            x.begin(false);
            x.begin(true);
            x.read(2, 6);
            x.near(3, 1, true);
            due("of any transaction", x.value(), 50);
            x.read(2, 4);
            x.near(2, 7, true);
            due("behind a 0", x.value(), 50);
            x.scan(2, 6, 6, 1);
            due("a scan finds none", x.value(), 50);
            x.write(2, 5, 51);
            x.commit(2);
            x.abort(3);
            due("behind the end of both", x.value(), 50);
            RingKeeper y = withTrap();
            y.read(y.begin(false), 1);
            y.read(1, 2);
            due("behind a NONE", y.value(), 10);
        });
        at("promise 6");
        edge("The key of that; 0 ahead of any", () -> {
            RingKeeper x = with(5);
            x.begin(false);
            x.read(2, 4);
            x.near(2, 6, true);
            x.scan(2, 0, 9, 9);
            due("key()", x.key(), 0);
        });
        edge("The key of that", () -> {
            RingKeeper x = with(5, 6);
            x.begin(false);
            x.near(2, 1, true);
            due("of a near", x.key(), 5);
            x.read(2, 6);
            due("of a read", x.key(), 6);
            x.read(2, 4);
            x.near(2, 7, true);
            x.scan(2, 5, 5, 1);
            x.commit(2);
            due("behind a 0, a scan, a commit", x.key(), 6);
            RingKeeper y = withTrap();
            y.read(y.begin(false), 1);
            y.near(1, 2, true);
            due("behind a NONE", y.key(), 1);
        });
    }

    private static void scan() {
        at("promise 7");
        edge("the keys from .. to", () -> {
            RingKeeper x = with(1, 3, 5, 7);
            int t = x.begin(false);
            due("both ends count", x.scan(t, 3, 5, 9), 2);
            dueRows(x, 3, 30, 5, 50);
            due("just inside", x.scan(t, 4, 4, 9), 0);
            dueRows(x);
            due("one key", x.scan(t, 5, 5, 9), 1);
            dueRows(x, 5, 50);
        });
        edge("the keys from .. to (all ints)", () -> {
            RingKeeper x = with(MIN, 0, MAX);
            int t = x.begin(false);
            due("scan", x.scan(t, MIN, MAX, 100), 3);
            dueRows(x, MIN, MIN * 10L, 0, 0, MAX, MAX * 10L);
            due("the first int", x.scan(t, MIN, MIN, 1), 1);
            due("the last int", x.scan(t, MAX, MAX, 2), 1);
            dueRows(x, MAX, MAX * 10L);
        });
        edge("under which t SEES a value, rising, with these values", () -> {
            RingKeeper x = with(7, 5, 3, 1);
            drop(x, 3);
            int t = x.begin(false);
            put(x, 1, 2);
            x.write(t, 6, 61);
            x.write(t, 5, 51);
            x.remove(t, 7);
            due("scan", x.scan(t, MIN, MAX, 100), 3);
            dueRows(x, 1, 10, 5, 51, 6, 61);
        });
        edge("the first so many (1 .. 100) at most", () -> {
            RingKeeper x = new RingKeeper();
            x.begin(false);
            for (int key = 1; key <= 101; key++) x.write(1, key, key);
            due("most 1", x.scan(1, MIN, MAX, 1), 1);
            dueRows(x, 1, 1);
            due("most 2", x.scan(1, MIN, MAX, 2), 2);
            dueRows(x, 1, 1, 2, 2);
            due("most 99", x.scan(1, MIN, MAX, 99), 99);
            due("most 100", x.scan(1, MIN, MAX, 100), 100);
            due("the 100th", x.rowKey(99), 100);
            due("the 100th", x.rowValue(99), 100);
            dueThrow("the 101st", "NoSuchElementException", () -> x.rowKey(100));
        });
        edge("It looks at all keys from .. to", () -> {
            dueLookedAt("scan", new int[] {4, 6}, (x, t) -> x.scan(t, 3, 8, 3), 3, 8);
            dueLookedAt("scan of nothing", new int[] {5}, (x, t) -> x.scan(t, 6, 8, 1), 6, 8);
            dueLookedAt("scan of one key", new int[] {5}, (x, t) -> x.scan(t, 5, 5, 2), 5, 5);
            dueLookedAt("scan of all", new int[] {5}, (x, t) -> x.scan(t, MIN, MAX, 2), MIN, MAX);
        });
        edge("those with writes of its own, too", () -> {
            dueLookedAt("scan over its own", new int[] {9}, (x, t) -> {
                x.write(t, 3, 1);
                x.write(t, 5, 1);
                x.remove(t, 7);
                x.scan(t, 3, 7, 9);
            }, 3, 7);
            RingKeeper x = withTrap();
            x.write(1, 2, 5);
            due("scan, where a looking is refused", x.scan(1, 2, 2, 9), NONE);
        });
        edge("if there are just so many ROWS, up to the last one's key", () -> {
            dueLookedAt("scan, one of three", new int[] {4, 6, 8}, (x, t) -> x.scan(t, 3, 9, 1), 3, 4);
            dueLookedAt("scan, two of three", new int[] {4, 6, 8}, (x, t) -> x.scan(t, 3, 9, 2), 3, 6);
            dueLookedAt("scan, three of three", new int[] {4, 6, 8}, (x, t) -> x.scan(t, 3, 9, 3), 3, 8);
            dueLookedAt("scan, one fewer", new int[] {4, 6, 8}, (x, t) -> x.scan(t, 3, 9, 4), 3, 9);
            dueLookedAt("scan, the last one at the end", new int[] {4, 6}, (x, t) -> x.scan(t, 3, 6, 2), 3, 6);
            dueLookedAt("scan, to the last int", new int[] {4, MAX}, (x, t) -> x.scan(t, 3, MAX, 2), 3, MAX);
            dueLookedAt("scan, its own the last one", new int[] {4, 8}, (x, t) -> {
                x.write(t, 6, 1);
                x.scan(t, 3, 9, 2);
            }, 3, 6);
        });
        edge("NONE by DANGER (the ROWS stay)", () -> {
            RingKeeper x = withTrap();
            x.write(1, 4, 40);
            due("scan short of it", x.scan(1, 3, 9, 1), 1);
            due("scan into it", x.scan(1, 3, 9, 2), NONE);
            dueRows(x, 4, 40);
            due("state", x.told(1, 0), 5);
        });
        edge("IllegalArgumentException: from is above to", () -> {
            RingKeeper x = with(1);
            x.begin(false);
            x.scan(2, 1, 1, 1);
            dueThrowAlone(x, "1 above", "IllegalArgumentException", () -> x.scan(2, 2, 1, 1));
            dueThrowAlone(x, "far above", "IllegalArgumentException", () -> x.scan(2, MAX, MIN, 1));
            dueThrowAlone(x, "above, by a wrap-around below", "IllegalArgumentException", () -> x.scan(2, 1, MIN, 1));
        });
        edge("IllegalArgumentException: most is not 1 .. 100", () -> {
            RingKeeper x = with(1);
            x.begin(false);
            x.scan(2, 1, 1, 1);
            for (int most : new int[] {MIN, -1, 0, 101, MAX}) {
                dueThrowAlone(x, "most " + most, "IllegalArgumentException", () -> x.scan(2, 1, 2, most));
            }
            due("most 1", x.scan(2, 1, 2, 1), 1);
            due("most 100", x.scan(2, 1, 2, 100), 1);
        });
        onlyActive("scan", (x, t) -> x.scan(t, 1, 2, 3));
    }

    private static void rows() {
        for (int number = 8; number <= 9; number++) {
            at("promise " + number);
            boolean keys = number == 8;
            edge("of the latest scan() that was not refused (of any transaction)", () -> {
                RingKeeper x = withTrap();
                int a = x.begin(true);
                int b = x.begin(false);
                x.scan(a, 2, 2, 9);
                x.scan(b, 6, 6, 9);
                due("row 0", keys ? x.rowKey(0) : x.rowValue(0), keys ? 6 : 60);
                x.scan(a, 1, 9, 9);
                due("row 0", keys ? x.rowKey(0) : x.rowValue(0), keys ? 1 : 10);
                due("refused", x.scan(1, 2, 6, 1), NONE);
                due("row 2", keys ? x.rowKey(2) : x.rowValue(2), keys ? 6 : 60);
                x.write(b, 1, 99);
                x.commit(b);
                x.abort(a);
                due("row 0, as it was", keys ? x.rowKey(0) : x.rowValue(0), keys ? 1 : 10);
            });
            edge("NoSuchElementException: there is none such (ahead of any scan)", () -> {
                RingKeeper x = with(1);
                dueNoRows(x, keys, MIN, -1, 0, 1, MAX);
            });
            edge("NoSuchElementException: there is none such (of a scan with 0)", () -> {
                RingKeeper x = with(1);
                x.begin(false);
                x.scan(2, 1, 1, 1);
                due("row 0", keys ? x.rowKey(0) : x.rowValue(0), keys ? 1 : 10);
                x.scan(2, 2, 3, 9);
                dueNoRows(x, keys, -1, 0, 1);
            });
            edge("NoSuchElementException: there is none such (below and above)", () -> {
                RingKeeper x = with(1, 2, 3);
                x.begin(false);
                x.scan(2, 0, 9, 9);
                due("row 0", keys ? x.rowKey(0) : x.rowValue(0), keys ? 1 : 10);
                due("row 2", keys ? x.rowKey(2) : x.rowValue(2), keys ? 3 : 30);
                dueNoRows(x, keys, MIN, -1, 3, 99, 100, MAX);
                x.scan(2, 0, 9, 1);
                dueNoRows(x, keys, 1, 2);
            });
        }
    }

    private static void dueNoRows(RingKeeper x, boolean keys, int... rows) {
        for (int i : rows) {
            dueThrowAlone(x, "row " + i, "NoSuchElementException", () -> {
                if (keys) x.rowKey(i);
                else x.rowValue(i);
            });
        }
    }

    /** Write of a value, or of NOTHING. */
    private static int set(RingKeeper x, boolean there, int t, int key) {
        return there ? x.write(t, key, key * 10L) : x.remove(t, key);
    }

    private static void writeAndRemove() {
        for (int number = 10; number <= 11; number++) {
            at("promise " + number);
            boolean there = number == 10;
            edge("how many keys it has written now", () -> {
                RingKeeper x = with(5);
                x.begin(false);
                due("the first", set(x, there, 2, 5), 1);
                due("the same again", set(x, there, 2, 5), 1);
                due("another", set(x, there, 2, 6), 2);
                due("the same with NOTHING or a value", set(x, !there, 2, 5), 2);
                due("the first int", set(x, there, 2, MIN), 3);
                due("the last int", set(x, there, 2, MAX), 4);
                due("of another transaction", set(x, there, x.begin(false), 6), 1);
            });
            edge("how many keys it has written now (that are not undone)", () -> {
                RingKeeper x = new RingKeeper();
                x.begin(false);
                set(x, there, 1, 1);
                x.save(1);
                set(x, there, 1, 1);
                set(x, there, 1, 2);
                x.undo(1, 1);
                due("behind an undo", set(x, there, 1, 3), 2);
                due("the one undone", set(x, there, 1, 2), 3);
            });
            edge("UnsupportedOperationException: it is READ-ONLY", () -> {
                RingKeeper x = withPivot();
                x.begin(true);
                dueUnsupported(x, there, 4, 1);
                x.commit(2);
                dueUnsupported(x, there, 4, 3);
                x.abort(1);
                x.begin(true);
                dueUnsupported(x, there, 5, 2);
            });
            onlyActive("write", (x, t) -> set(x, there, t, 1));
        }
        edge("WRITES NOTHING under a key (whatever is there)", () -> {
            RingKeeper x = with(1);
            drop(x, 2);
            int t = x.begin(false);
            due("a value", x.remove(t, 1), 1);
            due("NOTHING that was written", x.remove(t, 2), 2);
            due("NOTHING that was not", x.remove(t, 3), 3);
            x.write(t, 4, 4);
            due("its own value", x.remove(t, 4), 4);
            due("commit", x.commit(t), 0);
            due("none is left", x.near(x.begin(false), MIN, true), 0);
        });
    }

    private static void dueUnsupported(RingKeeper x, boolean there, int t, int kind) {
        due("kind", x.told(t, 7), kind);
        dueThrowAlone(x, "a write of a READ-ONLY one", "UnsupportedOperationException", () -> set(x, there, t, 1));
    }

    private static void save() {
        at("promise 12");
        edge("how many t has now", () -> {
            RingKeeper x = new RingKeeper();
            x.begin(false);
            x.begin(true);
            due("the first", x.save(1), 1);
            due("the second, with no write between", x.save(1), 2);
            due("of a READ-ONLY one", x.save(2), 1);
            due("places", x.told(1, 8), 2);
            due("places", x.told(2, 8), 1);
        });
        edge("NONE if it has 10", () -> {
            RingKeeper x = new RingKeeper();
            x.begin(false);
            x.begin(false);
            for (int n = 1; n <= 10; n++) {
                due("save", x.save(1), n);
                x.write(1, n, n);
            }
            String before = state(x);
            due("the 11th", x.save(1), NONE);
            due("the 11th again", x.save(1), NONE);
            dueSame("a save that is refused", before, state(x));
            due("of another", x.save(2), 1);
            due("the 10th place is where it was", x.undo(1, 10), 9);
            due("still 10", x.save(1), NONE);
            due("undo", x.undo(1, 9), 8);
            due("room again", x.save(1), 10);
            due("commit", x.commit(1), 0);
            due("astray()", x.astray(), 0);
        });
        onlyActive("save", (x, t) -> x.save(t));
    }

    private static void undo() {
        at("promise 13");
        edge("All writes of t behind its place n (1 the first) are undone", () -> {
            RingKeeper x = new RingKeeper();
            x.begin(false);
            x.begin(false);
            x.write(2, 1, 9);
            x.write(1, 1, 1);
            x.save(1);
            x.write(1, 2, 2);
            x.save(1);
            x.remove(1, 1);
            x.write(1, 3, 3);
            due("to the second", x.undo(1, 2), 2);
            x.read(1, 1);
            dueFound(x, 1, 1);
            due("to the first", x.undo(1, 1), 1);
            due("the other's writes stay", x.told(2, 5), 1);
        });
        edge("All writes behind its place n (ahead of all writes)", () -> {
            RingKeeper x = new RingKeeper();
            x.begin(false);
            x.save(1);
            x.write(1, 1, 1);
            x.remove(1, 2);
            due("undo", x.undo(1, 1), 0);
            due("wrote", x.told(1, 5), 0);
            due("scan", x.scan(1, MIN, MAX, 9), 0);
        });
        edge("All writes behind its place n (none is)", () -> {
            RingKeeper x = new RingKeeper();
            x.begin(false);
            x.write(1, 1, 1);
            x.save(1);
            String before = state(x);
            due("undo", x.undo(1, 1), 1);
            due("undo again", x.undo(1, 1), 1);
            dueSame("an undo of nothing", before, state(x));
        });
        edge("the places behind that one go", () -> {
            RingKeeper x = new RingKeeper();
            x.begin(false);
            for (int n = 1; n <= 4; n++) x.save(1);
            x.undo(1, 2);
            due("places", x.told(1, 8), 2);
            dueThrowAlone(x, "undo", "IndexOutOfBoundsException", () -> x.undo(1, 3));
            x.write(1, 1, 1);
            due("a new third", x.save(1), 3);
            x.write(1, 2, 2);
            due("undo to the new third", x.undo(1, 3), 1);
        });
        edge("it stays", () -> {
            RingKeeper x = new RingKeeper();
            x.begin(false);
            x.write(1, 1, 1);
            x.save(1);
            for (int i = 0; i < 3; i++) {
                due("write", x.write(1, 2, 2), 2);
                due("undo", x.undo(1, 1), 1);
                due("places", x.told(1, 8), 1);
            }
        });
        edge("READ KEYS stay", () -> {
            RingKeeper x = new RingKeeper();
            x.begin(false);
            x.save(1);
            x.read(1, 1);
            x.scan(1, 3, 5, 9);
            x.undo(1, 1);
            due("RUNS", x.told(1, 6), 2);
            put(x, 4);
            due("OUT", x.told(1, 3), 1);
        });
        edge("IndexOutOfBoundsException: there is no such place", () -> {
            RingKeeper x = new RingKeeper();
            x.begin(false);
            x.write(1, 1, 1);
            for (int n : new int[] {MIN, -1, 0, 1, MAX}) {
                dueThrowAlone(x, "without places, " + n, "IndexOutOfBoundsException", () -> x.undo(1, n));
            }
            x.save(1);
            x.save(1);
            for (int n : new int[] {MIN, -1, 0, 3, 10, 11, MAX}) {
                dueThrowAlone(x, "with two, " + n, "IndexOutOfBoundsException", () -> x.undo(1, n));
            }
            for (int n = 3; n <= 10; n++) x.save(1);
            dueThrowAlone(x, "with ten, 11", "IndexOutOfBoundsException", () -> x.undo(1, 11));
            due("with ten, 10", x.undo(1, 10), 1);
        });
        edge("IndexOutOfBoundsException: there is no such place (the places are another's)", () -> {
            RingKeeper x = new RingKeeper();
            x.begin(false);
            x.begin(false);
            x.save(1);
            dueThrowAlone(x, "undo", "IndexOutOfBoundsException", () -> x.undo(2, 1));
        });
        onlyActive("undo", (x, t) -> x.undo(t, 1));
    }

    private static void commitAndAbort() {
        at("promise 14");
        edge("0 it is COMMITTED (without any call)", () -> {
            RingKeeper x = new RingKeeper();
            due("READ-WRITE", x.commit(x.begin(false)), 0);
            due("READ-ONLY", x.commit(x.begin(true)), 0);
            due("committed", x.count(2), 2);
        });
        edge("0 it is COMMITTED (an UNSAFE one too)", () -> {
            RingKeeper x = withPivot();
            x.begin(true);
            x.commit(2);
            due("kind", x.told(4, 7), 3);
            x.read(4, 1);
            due("commit", x.commit(4), 0);
            due("astray()", x.astray(), 0);
        });
        edge("1 ABORTED by a WRITE CONFLICT", () -> {
            RingKeeper x = with(1);
            x.begin(false);
            put(x, 1);
            x.write(2, 1, 1);
            due("commit", x.commit(2), 1);
            due("state", x.told(2, 0), 4);
            due("count(4)", x.count(4), 1);
            due("versionValue", x.versionValue(1, 0), 10);
        });
        edge("2 ABORTED by a DANGER", () -> {
            RingKeeper x = withPivot();
            x.read(1, 2);
            due("commit", x.commit(2), 2);
            due("state", x.told(2, 0), 5);
            due("count(5)", x.count(5), 1);
            due("version", x.version(2, 0, 0), NONE);
        });
        onlyActive("commit", (x, t) -> x.commit(t));
        at("promise 15");
        edge("t is given up", () -> {
            RingKeeper x = with(1);
            x.begin(false);
            x.begin(true);
            x.write(2, 1, 5);
            x.write(2, 2, 5);
            x.abort(2);
            x.abort(3);
            due("state", x.told(2, 0), 3);
            due("state", x.told(3, 0), 3);
            due("given up", x.count(3), 2);
            due("versions", x.count(8), 1);
            due("moment", x.count(11), 1);
            dueWhy(x, 0, 0, 0, 0);
        });
        onlyActive("abort", (x, t) -> x.abort(t));
    }

    private static void calls() {
        at("What it is");
        edge("at most 512 calls (the last of them begins)", () -> {
            RingKeeper x = new RingKeeper();
            for (int i = 0; i < 255; i++) x.abort(x.begin(false));
            x.begin(true);
            due("the 512th call", x.begin(false), 257);
        });
        edge("at most 512 calls (the last of them writes)", () -> {
            RingKeeper x = new RingKeeper();
            x.begin(false);
            for (int key = 1; key <= 510; key++) x.write(1, key, key);
            due("the 512th call", x.write(1, 511, 511), 511);
        });
        edge("at most 512 calls (the last of them reads)", () -> {
            RingKeeper x = new RingKeeper();
            x.begin(false);
            for (int key = 1; key <= 510; key++) x.write(1, key, key);
            due("the 512th call", x.read(1, 510), 1);
            dueFound(x, 510, 510);
        });
        edge("at most 512 calls (the last of them scans)", () -> {
            RingKeeper x = new RingKeeper();
            x.begin(false);
            for (int key = 510; key >= 1; key--) x.write(1, key, key);
            due("the 512th call", x.scan(1, MIN, MAX, 100), 100);
            due("rowKey(99)", x.rowKey(99), 100);
        });
        edge("at most 512 calls (the last of them commits)", () -> {
            RingKeeper x = new RingKeeper();
            x.begin(false);
            for (int key = 1; key <= 510; key++) x.remove(1, key);
            due("the 512th call", x.commit(1), 0);
            due("wrote", x.count(2), 1);
        });
        edge("at most 512 calls (the last of them undoes)", () -> {
            RingKeeper x = new RingKeeper();
            x.begin(false);
            x.save(1);
            for (int key = 1; key <= 509; key++) x.write(1, key, key);
            due("the 512th call", x.undo(1, 1), 0);
        });
        edge("at most 512 calls (the last of them saves)", () -> {
            RingKeeper x = new RingKeeper();
            x.begin(false);
            for (int i = 0; i < 510; i++) x.read(1, 2 * i);
            due("the 512th call", x.save(1), 1);
            due("RUNS", x.told(1, 6), 510);
        });
        edge("at most 512 calls (the last of them is astray())", () -> {
            RingKeeper x = new RingKeeper();
            for (int i = 0; i < 127; i++) {
                int t = x.begin(false);
                x.near(t, i % 5, true);
                x.write(t, i % 5, i);
                x.commit(t);
            }
            due("the 509th to 511th", x.count(2) + x.count(8) + x.count(11), 127 + 5 + 127);
            due("the 512th call", x.astray(), 0);
        });
    }

    public static void main(String[] args) {
        newObject();
        begin();
        read();
        near();
        found();
        scan();
        rows();
        writeAndRemove();
        save();
        undo();
        commitAndAbort();
        calls();
        end();
    }
}

import java.util.ArrayList;
import java.util.HashMap;
import java.util.List;
import java.util.Map;
import java.util.NoSuchElementException;
import java.util.TreeMap;
import java.util.TreeSet;

/**
 * The document again, word by word and as slow as it likes: nothing is counted ahead, every answer
 * is worked out from all that ever happened. ModelTest holds RingKeeper against it.
 */
final class Model {
    static final int NONE = -1;
    private static final long ENDLESS = Long.MAX_VALUE;

    static final class Write {
        final int key;
        final Long value;
        Write(int key, Long value) { this.key = key; this.value = value; }
    }

    static final class Version {
        final int key;
        final Long value;
        final Tx by;
        Version(int key, Long value, Tx by) { this.key = key; this.value = value; this.by = by; }
    }

    /** How a call is done on a map of its own, and what it told. */
    interface Redo { String on(Map<Integer, Long> base, List<Write> own, List<Integer> places); }

    static final class Tx {
        int number;
        boolean readOnly;
        int start;
        int moment;
        int state = 1;
        boolean safe;
        boolean unsafe;
        boolean preceded;
        final List<Tx> watched = new ArrayList<>();
        final List<Write> writes = new ArrayList<>();
        final List<Integer> places = new ArrayList<>();
        final List<long[]> readKeys = new ArrayList<>();
        final List<long[]> looked = new ArrayList<>();
        final List<Redo> redo = new ArrayList<>();
        final List<String> told = new ArrayList<>();

        TreeMap<Integer, Long> wrote() {
            TreeMap<Integer, Long> last = new TreeMap<>();
            for (Write w : writes) last.put(w.key, w.value);
            return last;
        }
        long end() { return state == 1 ? ENDLESS : moment; }
        boolean aborted() { return state > 2; }
    }

    private final List<Tx> all = new ArrayList<>();
    private final List<Version> versions = new ArrayList<>();
    private int latest;
    private int foundKey;
    private long foundValue;
    private List<Write> rows = new ArrayList<>();
    private final int[] why = new int[4];

    private static boolean in(List<long[]> spans, int key) {
        for (long[] s : spans) if (s[0] <= key && key <= s[1]) return true;
        return false;
    }

    private static int runs(Tx x) {
        List<long[]> sorted = new ArrayList<>(x.readKeys);
        sorted.sort((a, b) -> Long.compare(a[0], b[0]));
        int runs = 0;
        long end = Long.MIN_VALUE / 2;
        for (long[] s : sorted) {
            if (s[0] > end + 1) runs++;
            end = Math.max(end, s[1]);
        }
        return runs;
    }

    private Tx active(int t) {
        if (t < 1 || t > all.size() || all.get(t - 1).state != 1) throw new IllegalStateException();
        return all.get(t - 1);
    }

    private static boolean concurrent(Tx a, Tx b) {
        return !a.aborted() && !b.aborted() && a.start < b.end() && b.start < a.end();
    }

    private static boolean reads(Tx a, Tx b) {
        for (int key : b.wrote().keySet()) if (in(a.readKeys, key)) return true;
        return false;
    }

    private static boolean precedes(Tx a, Tx b) {
        return a != b && b.state == 2 && concurrent(a, b) && reads(a, b);
    }

    private int out(Tx x) {
        int out = 0;
        for (Tx b : all) {
            if (precedes(x, b) && b.moment < x.end() && (out == 0 || b.moment < out)) out = b.moment;
        }
        return out;
    }

    private boolean mayNotPrecede(Tx a, Tx b) {
        int out = out(b);
        return out != 0 && (a.readOnly ? out <= a.start : out <= a.end());
    }

    private Tx ofMoment(int moment) {
        for (Tx x : all) if (x.state == 2 && x.moment == moment) return x;
        return null;
    }

    private void blame(int a, int b, int c, int d) {
        why[0] = a;
        why[1] = b;
        why[2] = c;
        why[3] = d;
    }

    private void notePreceded() {
        for (Tx a : all) for (Tx b : all) if (precedes(a, b)) b.preceded = true;
    }

    private void settleReadOnly() {
        for (Tx r : all) {
            if (!r.readOnly || r.state != 1 || r.safe || r.unsafe) continue;
            boolean waits = false;
            for (Tx w : r.watched) {
                if (w.state == 1) waits = true;
                if (w.state == 2 && out(w) != 0 && out(w) <= r.start) r.unsafe = true;
            }
            if (!waits && !r.unsafe) {
                r.safe = true;
                r.readKeys.clear();
            }
        }
    }

    int begin(boolean readOnly) {
        if (count(1) == 24) return NONE;
        Tx x = new Tx();
        for (Tx w : all) if (w.state == 1 && !w.readOnly) x.watched.add(w);
        x.number = all.size() + 1;
        x.readOnly = readOnly;
        x.start = latest;
        all.add(x);
        settleReadOnly();
        return x.number;
    }

    private Map<Integer, Long> base(Tx x) {
        Map<Integer, Long> base = new HashMap<>();
        for (Version v : versions) if (v.by.moment <= x.start) base.put(v.key, v.value);
        return base;
    }

    private static TreeMap<Integer, Long> sight(Map<Integer, Long> base, List<Write> own) {
        TreeMap<Integer, Long> sight = new TreeMap<>(base);
        for (Write w : own) sight.put(w.key, w.value);
        sight.values().removeIf(v -> v == null);
        return sight;
    }

    /** False if refused. */
    private boolean look(Tx a, long low, long high) {
        Tx worst = null;
        for (Version v : versions) {
            if (v.key >= low && v.key <= high && v.by.moment > a.start && mayNotPrecede(a, v.by)
                    && (worst == null || v.by.moment < worst.moment)) {
                worst = v.by;
            }
        }
        if (worst != null) {
            blame(2, a.number, worst.number, ofMoment(out(worst)).number);
            a.state = 5;
            settleReadOnly();
            return false;
        }
        a.looked.add(new long[] {low, high});
        if (!a.safe) a.readKeys.add(new long[] {low, high});
        notePreceded();
        return true;
    }

    private static String tell(Integer key, Long value) {
        return key == null || value == null ? "nothing" : key + "=" + value;
    }

    private void record(Tx x, Redo redo, String told) {
        x.redo.add(redo);
        x.told.add(told);
    }

    int read(int t, int key) {
        Tx a = active(t);
        boolean mine = a.wrote().containsKey(key);
        Long seen = sight(base(a), a.writes).get(key);
        if (!mine && !look(a, key, key)) return NONE;
        record(a, (base, own, places) -> tell(key, sight(base, own).get(key)), tell(key, seen));
        if (seen == null) return 0;
        foundKey = key;
        foundValue = seen;
        return 1;
    }

    private static Integer nearest(TreeMap<Integer, Long> sight, int key, boolean up) {
        return up ? sight.ceilingKey(key) : sight.floorKey(key);
    }

    int near(int t, int key, boolean up) {
        Tx a = active(t);
        TreeMap<Integer, Long> sight = sight(base(a), a.writes);
        Integer nearest = nearest(sight, key, up);
        long end = nearest != null ? nearest : up ? Integer.MAX_VALUE : Integer.MIN_VALUE;
        if (!look(a, Math.min(key, end), Math.max(key, end))) return NONE;
        record(a, (base, own, places) -> {
            TreeMap<Integer, Long> then = sight(base, own);
            Integer found = nearest(then, key, up);
            return tell(found, found == null ? null : then.get(found));
        }, tell(nearest, nearest == null ? null : sight.get(nearest)));
        if (nearest == null) return 0;
        foundKey = nearest;
        foundValue = sight.get(nearest);
        return 1;
    }

    long value() { return foundValue; }

    int key() { return foundKey; }

    private static List<Write> rows(TreeMap<Integer, Long> sight, int from, int to, int most) {
        List<Write> rows = new ArrayList<>();
        for (Map.Entry<Integer, Long> e : sight.entrySet()) {
            if (e.getKey() >= from && e.getKey() <= to && rows.size() < most) {
                rows.add(new Write(e.getKey(), e.getValue()));
            }
        }
        return rows;
    }

    private static String tell(List<Write> rows) {
        StringBuilder text = new StringBuilder();
        for (Write w : rows) text.append(w.key).append('=').append(w.value).append(' ');
        return text.toString();
    }

    int scan(int t, int from, int to, int most) {
        Tx a = active(t);
        if (from > to || most < 1 || most > 100) throw new IllegalArgumentException();
        List<Write> seen = rows(sight(base(a), a.writes), from, to, most);
        int end = seen.size() == most ? seen.get(most - 1).key : to;
        if (!look(a, from, end)) return NONE;
        record(a, (base, own, places) -> tell(rows(sight(base, own), from, to, most)), tell(seen));
        rows = seen;
        return seen.size();
    }

    int rowKey(int i) {
        if (i < 0 || i >= rows.size()) throw new NoSuchElementException();
        return rows.get(i).key;
    }

    long rowValue(int i) {
        if (i < 0 || i >= rows.size()) throw new NoSuchElementException();
        return rows.get(i).value;
    }

    private int put(int t, int key, Long value) {
        Tx a = active(t);
        if (a.readOnly) throw new UnsupportedOperationException();
        a.writes.add(new Write(key, value));
        record(a, (base, own, places) -> { own.add(new Write(key, value)); return ""; }, "");
        return a.wrote().size();
    }

    int write(int t, int key, long value) { return put(t, key, value); }

    int remove(int t, int key) { return put(t, key, null); }

    int save(int t) {
        Tx a = active(t);
        if (a.places.size() == 10) return NONE;
        a.places.add(a.writes.size());
        record(a, (base, own, places) -> { places.add(own.size()); return ""; }, "");
        return a.places.size();
    }

    private static void comeBack(List<Write> writes, List<Integer> places, int n) {
        while (places.size() > n) places.remove(places.size() - 1);
        while (writes.size() > places.get(n - 1)) writes.remove(writes.size() - 1);
    }

    int undo(int t, int n) {
        Tx a = active(t);
        if (n < 1 || n > a.places.size()) throw new IndexOutOfBoundsException();
        comeBack(a.writes, a.places, n);
        record(a, (base, own, places) -> { comeBack(own, places, n); return ""; }, "");
        return a.wrote().size();
    }

    int commit(int t) {
        Tx b = active(t);
        for (int key : b.wrote().keySet()) {
            for (Version v : versions) {
                if (v.key == key && v.by.moment > b.start) {
                    blame(1, t, v.by.number, key);
                    b.state = 4;
                    settleReadOnly();
                    return 1;
                }
            }
        }
        for (Tx a : all) {
            if (a != b && concurrent(a, b) && reads(a, b) && mayNotPrecede(a, b)) {
                blame(2, a.number, t, ofMoment(out(b)).number);
                b.state = 5;
                settleReadOnly();
                return 2;
            }
        }
        b.moment = ++latest;
        b.state = 2;
        b.wrote().forEach((key, value) -> versions.add(new Version(key, value, b)));
        notePreceded();
        settleReadOnly();
        return 0;
    }

    void abort(int t) {
        active(t).state = 3;
        settleReadOnly();
    }

    private int horizon() {
        int least = latest;
        for (Tx x : all) if (x.state == 1) least = Math.min(least, x.start);
        return least;
    }

    private boolean kept(Tx x) { return x.state == 2 && x.moment > horizon(); }

    int told(int t, int what) {
        if (t < 1 || t > all.size()) return NONE;
        Tx x = all.get(t - 1);
        if (what == 0) return x.state;
        if (x.state != 1 && !kept(x)) return NONE;
        switch (what) {
            case 1: return x.start;
            case 2: return x.moment;
            case 3: return out(x);
            case 4: return x.preceded ? 1 : 0;
            case 5: return x.wrote().size();
            case 6: return runs(x);
            case 7: return !x.readOnly ? 0 : x.safe ? 2 : x.unsafe ? 3 : 1;
            case 8: return x.places.size();
            default: return NONE;
        }
    }

    int why(int what) { return what < 0 || what > 3 ? 0 : why[what]; }

    /** Latest first. */
    private List<Version> keptVersions(int key) {
        List<Version> kept = new ArrayList<>();
        for (int i = versions.size() - 1; i >= 0; i--) {
            Version v = versions.get(i);
            if (v.key != key) continue;
            if (v.by.moment > horizon()) {
                kept.add(v);
            } else {
                if (v.value != null) kept.add(v);
                break;
            }
        }
        return kept;
    }

    int version(int key, int i, int what) {
        List<Version> kept = keptVersions(key);
        if (i < 0 || i >= kept.size()) return NONE;
        Version v = kept.get(i);
        return what == 0 ? v.by.moment : what == 1 ? (v.value != null ? 1 : 0) : what == 2 ? v.by.number : NONE;
    }

    long versionValue(int key, int i) {
        List<Version> kept = keptVersions(key);
        return i < 0 || i >= kept.size() || kept.get(i).value == null ? 0 : kept.get(i).value;
    }

    private TreeSet<Integer> keys() {
        TreeSet<Integer> keys = new TreeSet<>();
        for (Version v : versions) keys.add(v.key);
        return keys;
    }

    int count(int what) {
        if (what == 0) return all.size();
        if (what == 10) return horizon();
        if (what == 11) return latest;
        int many = 0;
        if (what >= 1 && what <= 5) {
            for (Tx x : all) if (x.state == what) many++;
        } else if (what == 6) {
            for (Tx x : all) if (kept(x)) many++;
        } else if (what == 7) {
            for (Tx x : all) if (x.state == 1 || kept(x)) many += runs(x);
        } else if (what == 8) {
            for (int key : keys()) many += keptVersions(key).size();
        } else if (what == 9) {
            for (int key : keys()) if (!keptVersions(key).isEmpty()) many++;
        } else {
            return NONE;
        }
        return many;
    }

    int astray() {
        boolean[][] ahead = new boolean[latest + 1][latest + 1];
        for (int key : keys()) {
            List<Version> chain = new ArrayList<>();
            for (Version v : versions) if (v.key == key) chain.add(v);
            for (int i = 0; i + 1 < chain.size(); i++) ahead[chain.get(i).by.moment][chain.get(i + 1).by.moment] = true;
            for (Tx x : all) {
                if (x.state != 2 || !in(x.looked, key)) continue;
                int seen = -1;
                while (seen + 1 < chain.size() && chain.get(seen + 1).by.moment <= x.start) seen++;
                if (seen >= 0) ahead[chain.get(seen).by.moment][x.moment] = true;
                if (seen + 1 < chain.size()) ahead[x.moment][chain.get(seen + 1).by.moment] = true;
            }
        }
        for (int i = 1; i <= latest; i++) ahead[i][i] = false;
        int onRings = onRings(ahead);
        return onRings > 0 ? onRings : redoAll(ahead);
    }

    private int onRings(boolean[][] ahead) {
        boolean[][] far = new boolean[latest + 1][];
        for (int i = 0; i <= latest; i++) far[i] = ahead[i].clone();
        for (int k = 1; k <= latest; k++)
            for (int i = 1; i <= latest; i++)
                for (int j = 1; far[i][k] && j <= latest; j++) far[i][j] |= far[k][j];
        int many = 0;
        for (int i = 1; i <= latest; i++) if (far[i][i]) many++;
        return many;
    }

    private int redoAll(boolean[][] ahead) {
        Map<Integer, Long> base = new HashMap<>();
        boolean[] done = new boolean[latest + 1];
        int wrong = 0;
        for (int n = 0; n < latest; n++) {
            int next = 0;
            for (int y = latest; y >= 1; y--) {
                boolean ready = !done[y];
                for (int x = 1; x <= latest; x++) if (ahead[x][y] && !done[x]) ready = false;
                if (ready) next = y;
            }
            done[next] = true;
            Tx tx = ofMoment(next);
            List<Write> own = new ArrayList<>();
            List<Integer> places = new ArrayList<>();
            for (int i = 0; i < tx.redo.size(); i++) {
                if (!tx.redo.get(i).on(base, own, places).equals(tx.told.get(i))) wrong++;
            }
            for (Write w : own) base.put(w.key, w.value);
        }
        Map<Integer, Long> last = new HashMap<>();
        for (Version v : versions) last.put(v.key, v.value);
        TreeMap<Integer, Long> now = sight(base, List.of());
        TreeMap<Integer, Long> due = sight(last, List.of());
        for (int key : keys()) if (!java.util.Objects.equals(now.get(key), due.get(key))) wrong++;
        return wrong;
    }
}

import java.util.ArrayList;
import java.util.Arrays;
import java.util.NoSuchElementException;

/**
 * A store of values under keys in which transactions go side by side and yet as if one behind the
 * other. The words in comments (LOOKING, OUT, DANGER, ..) are those of the document's "Terms".
 */
public final class RingKeeper {
    public static final int NONE = -1;

    private static final int MOST_ACTIVE = 24;
    private static final int MOST_PLACES = 10;
    private static final int MOST_ROWS = 100;
    // An object serves 512 calls; no more than so many things are ever kept, whatever comes later.
    private static final int MOST_RECORDS = 512;
    // No int, so it can stand beside keys.
    private static final long NO_KEY = Long.MIN_VALUE;

    // The states of a transaction, numbered as told() and count() tell them.
    private static final int ACTIVE = 1;
    private static final int COMMITTED = 2;
    private static final int GIVEN_UP = 3;
    private static final int BY_CONFLICT = 4;
    private static final int BY_DANGER = 5;

    // The kinds of a transaction, numbered as told() tells them.
    private static final int READ_WRITE = 0;
    private static final int READ_ONLY = 1;
    private static final int SAFE = 2;
    private static final int UNSAFE = 3;

    private static final int CALL_READ = 0;
    private static final int CALL_NEAR = 1;
    private static final int CALL_SCAN = 2;
    private static final int CALL_WRITE = 3;
    private static final int CALL_SAVE = 4;
    private static final int CALL_UNDO = 5;

    private static final int CONFLICT = 1;
    private static final int DANGER = 2;

    private final Shelf store = new Shelf();
    private final ArrayList<Transaction> begun = new ArrayList<>();
    // In the order of their beginning, so that the first has the least START.
    private final ArrayList<Transaction> active = new ArrayList<>();
    // In the order of their moments: the one with moment m stands at m - 1.
    private final ArrayList<Transaction> committed = new ArrayList<>();
    private final int[] inState = new int[BY_DANGER + 1];
    private final int[] reason = new int[4];
    // These two are used anew by every call, so that a call makes little.
    private final Answer scratch = new Answer(MOST_ROWS);
    private final ArrayList<Transaction> others = new ArrayList<>();
    private int records = 0;
    private int foundKey = 0;
    private long foundValue = 0;
    private Answer latestRows = null;
    private int auditedMoment = 0;
    private int verdict = 0;

    public RingKeeper() {
    }

    public int begin(boolean readOnly) {
        if (active.size() >= MOST_ACTIVE || !takeRecord()) {
            return NONE;
        }
        View view = new View(store, committed.size(), begun.size() + 1);
        Transaction beginner = new Transaction(view, readOnly);
        if (readOnly) {
            beginner.waitFor(activeReadWrite());
        }
        begun.add(beginner);
        active.add(beginner);
        inState[ACTIVE]++;
        return beginner.number;
    }

    public int read(int t, int key) throws IllegalStateException {
        Transaction reader = activeOne(t);
        return carryOut(reader, new Call(CALL_READ, key));
    }

    public int near(int t, int key, boolean up) throws IllegalStateException {
        Transaction reader = activeOne(t);
        Call call = new Call(CALL_NEAR, key);
        call.flag = up;
        return carryOut(reader, call);
    }

    public long value() {
        return foundValue;
    }

    public int key() {
        return foundKey;
    }

    public int scan(int t, int from, int to, int most) throws IllegalStateException, IllegalArgumentException {
        Transaction reader = activeOne(t);
        if (from > to) {
            throw new IllegalArgumentException("from is above to");
        }
        if (most < 1 || most > MOST_ROWS) {
            throw new IllegalArgumentException("most is not 1 .. 100");
        }
        Call call = new Call(CALL_SCAN, from);
        call.to = to;
        call.number = most;
        return carryOut(reader, call);
    }

    public int rowKey(int i) throws NoSuchElementException {
        if (latestRows == null || !latestRows.hasRow(i)) {
            throw new NoSuchElementException("there is no such row");
        }
        return latestRows.keys[i];
    }

    public long rowValue(int i) throws NoSuchElementException {
        if (latestRows == null || !latestRows.hasRow(i)) {
            throw new NoSuchElementException("there is no such row");
        }
        return latestRows.values[i];
    }

    public int write(int t, int key, long value) throws IllegalStateException, UnsupportedOperationException {
        Transaction writer = writingOne(t);
        Call call = new Call(CALL_WRITE, key);
        call.flag = true;
        call.value = value;
        return carryOut(writer, call);
    }

    public int remove(int t, int key) throws IllegalStateException, UnsupportedOperationException {
        Transaction writer = writingOne(t);
        return carryOut(writer, new Call(CALL_WRITE, key));
    }

    public int save(int t) throws IllegalStateException {
        Transaction saver = activeOne(t);
        return carryOut(saver, new Call(CALL_SAVE, 0));
    }

    public int undo(int t, int n) throws IllegalStateException, IndexOutOfBoundsException {
        Transaction undoer = activeOne(t);
        if (!undoer.view.hasPlace(n)) {
            throw new IndexOutOfBoundsException("there is no such place");
        }
        Call call = new Call(CALL_UNDO, 0);
        call.number = n;
        return carryOut(undoer, call);
    }

    public int commit(int t) throws IllegalStateException {
        Transaction committer = activeOne(t);
        if (isInConflict(committer)) {
            end(committer, BY_CONFLICT);
            return CONFLICT;
        }
        gatherReaders(committer);
        if (isInDanger(committer)) {
            end(committer, BY_DANGER);
            return DANGER;
        }
        committer.moment = committed.size() + 1;
        committed.add(committer);
        committer.view.install(committer.moment);
        // Ahead of end(), which may make a reader SAFE: it did precede this one.
        noteReaders(committer);
        end(committer, COMMITTED);
        return 0;
    }

    public void abort(int t) throws IllegalStateException {
        end(activeOne(t), GIVEN_UP);
    }

    public int told(int t, int what) {
        Transaction one = numbered(t);
        if (one == null) {
            return NONE;
        }
        if (what == 0) {
            return one.state;
        }
        if (one.state != ACTIVE && !isKept(one)) {
            return NONE;
        }
        switch (what) {
            case 1: return one.start;
            case 2: return one.moment;
            case 3: return one.out;
            case 4: return one.preceded ? 1 : 0;
            case 5: return one.view.own.size();
            case 6: return one.runs();
            case 7: return one.kind;
            case 8: return one.view.placeCount;
            default: return NONE;
        }
    }

    public int why(int what) {
        return what >= 0 && what < reason.length ? reason[what] : 0;
    }

    public int version(int key, int i, int what) {
        Entry entry = keptVersion(key, i);
        if (entry == null) {
            return NONE;
        }
        switch (what) {
            case 0: return entry.stamp;
            case 1: return entry.there ? 1 : 0;
            case 2: return entry.writer;
            default: return NONE;
        }
    }

    public long versionValue(int key, int i) {
        Entry entry = keptVersion(key, i);
        return entry == null || !entry.there ? 0 : entry.value;
    }

    public int count(int what) {
        if (what >= ACTIVE && what <= BY_DANGER) {
            return inState[what];
        }
        switch (what) {
            case 0: return begun.size();
            case 6: return committed.size() - horizon();
            case 7: return allRuns();
            case 8: return keptVersions();
            case 9: return keysWithVersions();
            case 10: return horizon();
            case 11: return committed.size();
            default: return NONE;
        }
    }

    public int astray() {
        // Only a commit can change the answer.
        if (auditedMoment != committed.size()) {
            Audit audit = new Audit(store, committed);
            audit.drawVersions();
            audit.drawLookings();
            verdict = audit.lineUp() ? audit.differences(scratch) : audit.onRings();
            auditedMoment = committed.size();
        }
        return verdict;
    }

    private boolean takeRecord() {
        if (records >= MOST_RECORDS) {
            return false;
        }
        records++;
        return true;
    }

    private Transaction numbered(int t) {
        return t >= 1 && t <= begun.size() ? begun.get(t - 1) : null;
    }

    private Transaction withMoment(int moment) {
        return moment >= 1 && moment <= committed.size() ? committed.get(moment - 1) : null;
    }

    private Transaction activeOne(int t) {
        Transaction one = numbered(t);
        if (one == null || one.state != ACTIVE) {
            throw new IllegalStateException("the transaction is not active");
        }
        return one;
    }

    private Transaction writingOne(int t) {
        Transaction one = activeOne(t);
        if (one.kind != READ_WRITE) {
            throw new UnsupportedOperationException("the transaction is read-only");
        }
        return one;
    }

    private int activeReadWrite() {
        int many = 0;
        for (int i = 0; i < active.size(); i++) {
            if (active.get(i).kind == READ_WRITE) {
                many++;
            }
        }
        return many;
    }

    private int carryOut(Transaction caller, Call call) {
        if (!takeRecord()) {
            return NONE;
        }
        call.carryOut(caller.view, scratch);
        if (scratch.looks && !lookAt(caller, scratch.low, scratch.high)) {
            return NONE;
        }
        caller.calls.add(call);
        if (call.isLooking()) {
            call.then = scratch.copy();
        }
        if (call.kind == CALL_SCAN) {
            latestRows = call.then;
        }
        if (scratch.found) {
            foundKey = scratch.foundKey;
            foundValue = scratch.foundValue;
        }
        return scratch.result;
    }

    /** False if the looking is refused; then the looker is ABORTED. */
    private boolean lookAt(Transaction looker, int low, int high) {
        gatherOverwriters(looker, low, high);
        Transaction forbidden = forbiddenOverwriter(looker);
        if (forbidden != null) {
            blameDanger(looker, forbidden);
            end(looker, BY_DANGER);
            return false;
        }
        looker.looked.add(low, high);
        for (int i = 0; i < others.size() && looker.kind != SAFE; i++) {
            Transaction overwriter = others.get(i);
            overwriter.preceded = true;
            looker.noteOut(overwriter.moment);
        }
        return true;
    }

    private void gatherOverwriters(Transaction looker, int low, int high) {
        others.clear();
        for (int i = store.indexFrom(low); i < store.size(); i++) {
            Chain chain = store.chainAt(i);
            if (chain == null || chain.key > high) {
                break;
            }
            for (Entry e = chain.top; e != null && e.stamp > looker.start; e = e.below) {
                Transaction overwriter = withMoment(e.stamp);
                if (overwriter != null) {
                    others.add(overwriter);
                }
            }
        }
    }

    private Transaction forbiddenOverwriter(Transaction looker) {
        Transaction least = null;
        for (int i = 0; i < others.size(); i++) {
            Transaction one = others.get(i);
            if (looker.mayNotPrecede(one.out) && (least == null || one.moment < least.moment)) {
                least = one;
            }
        }
        return least;
    }

    private boolean isInConflict(Transaction committer) {
        Shelf own = committer.view.own;
        for (int i = 0; i < own.size(); i++) {
            Chain written = own.chainAt(i);
            if (written == null) {
                continue;
            }
            Chain chain = store.find(written.key);
            Entry later = chain == null ? null : chain.firstAfter(committer.start);
            if (later != null) {
                blame(CONFLICT, committer.number, later.writer, written.key);
                return true;
            }
        }
        return false;
    }

    private void gatherReaders(Transaction committer) {
        others.clear();
        // Those COMMITTED up to its START are not CONCURRENT with it.
        for (int m = committer.start + 1; m <= committed.size(); m++) {
            gatherIfReader(withMoment(m), committer);
        }
        for (int i = 0; i < active.size(); i++) {
            gatherIfReader(active.get(i), committer);
        }
    }

    private void gatherIfReader(Transaction one, Transaction committer) {
        if (one == null || one == committer) {
            return;
        }
        Shelf own = committer.view.own;
        for (int i = 0; i < own.size(); i++) {
            Chain written = own.chainAt(i);
            if (written != null && one.hasReadKey(written.key)) {
                others.add(one);
                return;
            }
        }
    }

    private boolean isInDanger(Transaction committer) {
        Transaction least = null;
        for (int i = 0; i < others.size(); i++) {
            Transaction one = others.get(i);
            if (one.mayNotPrecede(committer.out) && (least == null || one.number < least.number)) {
                least = one;
            }
        }
        if (least == null) {
            return false;
        }
        blameDanger(least, committer);
        return true;
    }

    private void noteReaders(Transaction committer) {
        for (int i = 0; i < others.size(); i++) {
            Transaction one = others.get(i);
            committer.preceded = true;
            // OUT of one that is COMMITTED counts earlier moments than its own alone.
            if (one.state == ACTIVE) {
                one.noteOut(committer.moment);
            }
        }
    }

    private void blameDanger(Transaction ahead, Transaction behind) {
        Transaction last = withMoment(behind.out);
        blame(DANGER, ahead.number, behind.number, last == null ? 0 : last.number);
    }

    private void blame(int which, int first, int second, int third) {
        reason[0] = which;
        reason[1] = first;
        reason[2] = second;
        reason[3] = third;
    }

    private void end(Transaction ender, int state) {
        ender.state = state;
        inState[ACTIVE]--;
        inState[state]++;
        for (int i = 0; i < active.size(); i++) {
            if (active.get(i) == ender) {
                active.remove(i);
                break;
            }
        }
        if (ender.kind != READ_WRITE) {
            return;
        }
        for (int i = 0; i < active.size(); i++) {
            active.get(i).heedEndOf(ender);
        }
    }

    private int horizon() {
        return active.isEmpty() ? committed.size() : active.get(0).start;
    }

    private boolean isKept(Transaction one) {
        return one.state == COMMITTED && one.moment > horizon();
    }

    private int allRuns() {
        int runs = 0;
        for (int i = 0; i < active.size(); i++) {
            runs += active.get(i).runs();
        }
        for (int m = horizon() + 1; m <= committed.size(); m++) {
            Transaction kept = withMoment(m);
            runs += kept == null ? 0 : kept.runs();
        }
        return runs;
    }

    private Entry keptVersion(int key, int i) {
        Chain chain = store.find(key);
        if (chain == null || i < 0 || i >= chain.keptAbove(horizon())) {
            return null;
        }
        Entry entry = chain.top;
        for (int below = 0; below < i && entry != null; below++) {
            entry = entry.below;
        }
        return entry;
    }

    private int keptVersions() {
        int horizon = horizon();
        int many = 0;
        for (int i = 0; i < store.size(); i++) {
            Chain chain = store.chainAt(i);
            many += chain == null ? 0 : chain.keptAbove(horizon);
        }
        return many;
    }

    private int keysWithVersions() {
        int horizon = horizon();
        int many = 0;
        for (int i = 0; i < store.size(); i++) {
            Chain chain = store.chainAt(i);
            if (chain != null && chain.keptAbove(horizon) > 0) {
                many++;
            }
        }
        return many;
    }

    /** A value, or NOTHING, that was written under a key. */
    private static final class Entry {
        final int stamp;
        final int writer;
        final boolean there;
        final long value;
        final Entry below;

        Entry(int stamp, int writer, boolean there, long value, Entry below) {
            this.stamp = stamp;
            this.writer = writer;
            this.there = there;
            this.value = value;
            this.below = below;
        }
    }

    /** All entries of one key, the greatest stamp on top. */
    private static final class Chain {
        final int key;
        Entry top = null;

        Chain(int key) {
            this.key = key;
        }

        Entry upTo(int stamp) {
            Entry entry = top;
            while (entry != null && entry.stamp > stamp) {
                entry = entry.below;
            }
            return entry;
        }

        Entry firstAfter(int stamp) {
            Entry first = null;
            for (Entry e = top; e != null && e.stamp > stamp; e = e.below) {
                first = e;
            }
            return first;
        }

        int keptAbove(int horizon) {
            int kept = 0;
            Entry entry = top;
            while (entry != null && entry.stamp > horizon) {
                kept++;
                entry = entry.below;
            }
            return entry != null && entry.there ? kept + 1 : kept;
        }

        void dropAfter(int stamp) {
            top = upTo(stamp);
        }
    }

    /**
     * Chains by rising keys. One is the store, with moments as stamps; each transaction has one for
     * its own writes, whose stamps count these.
     */
    private static final class Shelf {
        final ArrayList<Chain> chains = new ArrayList<>();

        int size() {
            return chains.size();
        }

        Chain chainAt(int index) {
            return index >= 0 && index < chains.size() ? chains.get(index) : null;
        }

        /** The place of the least key that is not below this one; a long, to go past either end. */
        int indexFrom(long key) {
            int low = 0;
            int high = chains.size();
            while (low < high) {
                int middle = (low + high) >>> 1;
                if (chains.get(middle).key < key) {
                    low = middle + 1;
                } else {
                    high = middle;
                }
            }
            return low;
        }

        Chain nextChain(long key, boolean up) {
            return chainAt(up ? indexFrom(key) : indexFrom(key + 1) - 1);
        }

        Chain find(int key) {
            Chain chain = chainAt(indexFrom(key));
            return chain != null && chain.key == key ? chain : null;
        }

        void put(int key, int stamp, int writer, boolean there, long value) {
            Chain chain = find(key);
            if (chain == null) {
                chain = new Chain(key);
                chains.add(indexFrom(key), chain);
            }
            chain.top = new Entry(stamp, writer, there, value, chain.top);
        }

        void dropAfter(int stamp) {
            for (int i = chains.size() - 1; i >= 0; i--) {
                Chain chain = chains.get(i);
                chain.dropAfter(stamp);
                if (chain.top == null) {
                    chains.remove(i);
                }
            }
        }
    }

    /** What one transaction SEES: a store as it was at its START, and over it its own writes. */
    private static final class View {
        final Shelf store;
        final int start;
        final int owner;
        final Shelf own = new Shelf();
        // How many writes there had been at each place to come back to.
        final int[] places = new int[MOST_PLACES];
        int placeCount = 0;
        int writes = 0;

        View(Shelf store, int start, int owner) {
            this.store = store;
            this.start = start;
            this.owner = owner;
        }

        boolean hasPlace(int n) {
            return n >= 1 && n <= placeCount;
        }

        Entry seen(int key) {
            Chain chain = own.find(key);
            if (chain != null) {
                return chain.top;
            }
            chain = store.find(key);
            return chain == null ? null : chain.upTo(start);
        }

        /** The nearest key with a value from one key on to another. */
        long nearest(long from, long to, boolean up) {
            long next = from;
            int most = store.size() + own.size();
            for (int i = 0; i < most; i++) {
                Chain mine = own.nextChain(next, up);
                Chain stored = store.nextChain(next, up);
                if (mine == null && stored == null) {
                    return NO_KEY;
                }
                // An own write hides what the store has under the same key.
                boolean isMine = stored == null
                        || mine != null && (up ? mine.key <= stored.key : mine.key >= stored.key);
                Chain chain = isMine ? mine : stored;
                if (chain == null || (up ? chain.key > to : chain.key < to)) {
                    return NO_KEY;
                }
                Entry entry = isMine ? chain.top : chain.upTo(start);
                if (entry != null && entry.there) {
                    return chain.key;
                }
                next = up ? chain.key + 1L : chain.key - 1L;
            }
            return NO_KEY;
        }

        void answerRead(int key, Answer answer) {
            Entry entry = seen(key);
            if (entry != null && entry.there) {
                answer.find(key, entry.value);
            }
            if (own.find(key) == null) {
                answer.lookAt(key, key);
            }
        }

        void answerNear(int key, boolean up, Answer answer) {
            int end = up ? Integer.MAX_VALUE : Integer.MIN_VALUE;
            long nearest = nearest(key, end, up);
            if (nearest != NO_KEY) {
                end = (int) nearest;
                Entry entry = seen(end);
                answer.find(end, entry == null ? 0 : entry.value);
            }
            answer.lookAt(up ? key : end, up ? end : key);
        }

        void answerScan(int from, int to, int most, Answer answer) {
            long next = from;
            for (int i = 0; i < most; i++) {
                long nearest = nearest(next, to, true);
                if (nearest == NO_KEY) {
                    break;
                }
                Entry entry = seen((int) nearest);
                answer.addRow((int) nearest, entry == null ? 0 : entry.value);
                next = nearest + 1;
            }
            answer.result = answer.rows;
            // next stands behind the last row then.
            answer.lookAt(from, answer.rows == most ? (int) (next - 1) : to);
        }

        int putOwn(int key, boolean there, long value) {
            writes++;
            own.put(key, writes, owner, there, value);
            return own.size();
        }

        int addPlace() {
            if (placeCount >= places.length) {
                return NONE;
            }
            places[placeCount] = writes;
            placeCount++;
            return placeCount;
        }

        int comeBack(int n) {
            if (hasPlace(n)) {
                own.dropAfter(places[n - 1]);
                placeCount = n;
            }
            return own.size();
        }

        void install(int moment) {
            for (int i = 0; i < own.size(); i++) {
                Chain chain = own.chainAt(i);
                if (chain != null && chain.top != null) {
                    store.put(chain.key, moment, owner, chain.top.there, chain.top.value);
                }
            }
        }
    }

    /** What a call answered, FOUND or gave as ROWS, and at which keys it looked. */
    private static final class Answer {
        int result = 0;
        boolean found = false;
        int foundKey = 0;
        long foundValue = 0;
        boolean looks = false;
        int low = 0;
        int high = 0;
        int rows = 0;
        final int[] keys;
        final long[] values;

        Answer(int room) {
            keys = new int[room >= 0 ? room : 0];
            values = new long[room >= 0 ? room : 0];
        }

        void clear() {
            result = 0;
            found = false;
            foundKey = 0;
            foundValue = 0;
            looks = false;
            rows = 0;
        }

        void find(int key, long value) {
            result = 1;
            found = true;
            foundKey = key;
            foundValue = value;
        }

        void lookAt(int from, int to) {
            looks = true;
            low = from;
            high = to;
        }

        void addRow(int key, long value) {
            if (rows < keys.length && rows < values.length) {
                keys[rows] = key;
                values[rows] = value;
                rows++;
            }
        }

        boolean hasRow(int i) {
            return i >= 0 && i < rows && i < keys.length && i < values.length;
        }

        Answer copy() {
            Answer copy = new Answer(rows);
            copy.result = result;
            copy.found = found;
            copy.foundKey = foundKey;
            copy.foundValue = foundValue;
            for (int i = 0; i < rows && hasRow(i); i++) {
                copy.addRow(keys[i], values[i]);
            }
            return copy;
        }

        boolean tellsAs(Answer other) {
            if (result != other.result || found != other.found || rows != other.rows) {
                return false;
            }
            if (foundKey != other.foundKey || foundValue != other.foundValue) {
                return false;
            }
            for (int i = 0; i < rows && hasRow(i) && other.hasRow(i); i++) {
                if (keys[i] != other.keys[i] || values[i] != other.values[i]) {
                    return false;
                }
            }
            return true;
        }
    }

    /** A call of a transaction, kept so that astray() can do it again. */
    private static final class Call {
        final int kind;
        final int key;
        int to = 0;
        int number = 0;
        boolean flag = false;
        long value = 0;
        Answer then = null;

        Call(int kind, int key) {
            this.kind = kind;
            this.key = key;
        }

        boolean isLooking() {
            return kind == CALL_READ || kind == CALL_NEAR || kind == CALL_SCAN;
        }

        void carryOut(View view, Answer answer) {
            answer.clear();
            switch (kind) {
                case CALL_READ: view.answerRead(key, answer); break;
                case CALL_NEAR: view.answerNear(key, flag, answer); break;
                case CALL_SCAN: view.answerScan(key, to, number, answer); break;
                case CALL_WRITE: answer.result = view.putOwn(key, flag, value); break;
                case CALL_SAVE: answer.result = view.addPlace(); break;
                case CALL_UNDO: answer.result = view.comeBack(number); break;
                default: break;
            }
        }
    }

    /** Keys as spans without a gap, rising, none next to another: as many as there are RUNS. */
    private static final class Spans {
        int[] lows = new int[4];
        int[] highs = new int[4];
        int size = 0;

        void add(int low, int high) {
            int from = indexReaching(low - 1L);
            int to = from;
            int newLow = low;
            int newHigh = high;
            while (to < size && lows[to] <= high + 1L) {
                newLow = Math.min(newLow, lows[to]);
                newHigh = Math.max(newHigh, highs[to]);
                to++;
            }
            replace(from, to, newLow, newHigh);
        }

        boolean contains(int key) {
            int index = indexReaching(key);
            return index < size && lows[index] <= key;
        }

        /** The place of the first span that ends at this key or above it. */
        int indexReaching(long key) {
            int low = 0;
            int high = size;
            while (low < high) {
                int middle = (low + high) >>> 1;
                if (highs[middle] < key) {
                    low = middle + 1;
                } else {
                    high = middle;
                }
            }
            return low;
        }

        /** The spans from .. to - 1 give way to a single one. */
        void replace(int from, int to, int low, int high) {
            if (size == lows.length) {
                lows = Arrays.copyOf(lows, size * 2);
                highs = Arrays.copyOf(highs, size * 2);
            }
            System.arraycopy(lows, to, lows, from + 1, size - to);
            System.arraycopy(highs, to, highs, from + 1, size - to);
            lows[from] = low;
            highs[from] = high;
            size += 1 - (to - from);
        }
    }

    private static final class Transaction {
        final int number;
        final int start;
        final View view;
        final Spans looked = new Spans();
        final ArrayList<Call> calls = new ArrayList<>();
        int kind;
        int state = ACTIVE;
        int moment = 0;
        int out = 0;
        boolean preceded = false;
        // For a READ-ONLY one: the READ-WRITE ones that have been ACTIVE since ahead of its begin.
        int awaited = 0;

        Transaction(View view, boolean readOnly) {
            this.view = view;
            number = view.owner;
            start = view.start;
            kind = readOnly ? READ_ONLY : READ_WRITE;
        }

        void waitFor(int readWriteOnes) {
            awaited = readWriteOnes;
            becomeSafeIfDone();
        }

        void becomeSafeIfDone() {
            if (kind == READ_ONLY && awaited == 0) {
                kind = SAFE;
                out = 0;
            }
        }

        void heedEndOf(Transaction ender) {
            // One that ends only now was ACTIVE at this one's begin if it began ahead of it.
            if (kind == READ_WRITE || ender.number > number) {
                return;
            }
            awaited--;
            if (kind == READ_ONLY && ender.state == COMMITTED && ender.out != 0 && ender.out <= start) {
                kind = UNSAFE;
            }
            becomeSafeIfDone();
        }

        /** Whether it MAY NOT PRECEDE one with this OUT. */
        boolean mayNotPrecede(int otherOut) {
            if (otherOut == 0) {
                return false;
            }
            if (kind == READ_WRITE) {
                return state == ACTIVE || otherOut <= moment;
            }
            return otherOut <= start;
        }

        void noteOut(int otherMoment) {
            if (out == 0 || otherMoment < out) {
                out = otherMoment;
            }
        }

        // One that is SAFE has looked, which astray() must know, but has no READ KEYS.
        boolean hasReadKey(int key) {
            return kind != SAFE && looked.contains(key);
        }

        int runs() {
            return kind == SAFE ? 0 : looked.size;
        }
    }

    /** What astray() asks of all that were COMMITTED; one stands at its moment - 1. */
    private static final class Audit {
        final Shelf store;
        final ArrayList<Transaction> committed;
        final int size;
        final int words;
        // For each one as many words as hold a bit for each that comes ahead of it.
        final long[] ahead;
        final int[] order;

        Audit(Shelf store, ArrayList<Transaction> committed) {
            this.store = store;
            this.committed = committed;
            size = committed.size();
            words = (size + 63) >>> 6;
            ahead = new long[size * words];
            order = new int[size];
        }

        void drawVersions() {
            for (int i = 0; i < store.size(); i++) {
                Chain chain = store.chainAt(i);
                Entry later = chain == null ? null : chain.top;
                while (later != null && later.below != null) {
                    draw(later.below.stamp, later.stamp);
                    later = later.below;
                }
            }
        }

        void drawLookings() {
            for (int i = 0; i < size; i++) {
                Transaction looker = committed.get(i);
                for (int s = 0; s < looker.looked.size; s++) {
                    drawLooking(looker, looker.looked.lows[s], looker.looked.highs[s]);
                }
            }
        }

        void drawLooking(Transaction looker, int low, int high) {
            for (int i = store.indexFrom(low); i < store.size(); i++) {
                Chain chain = store.chainAt(i);
                if (chain == null || chain.key > high) {
                    break;
                }
                Entry seen = chain.upTo(looker.start);
                if (seen != null) {
                    draw(seen.stamp, looker.moment);
                }
                Entry next = chain.firstAfter(looker.start);
                if (next != null) {
                    draw(looker.moment, next.stamp);
                }
            }
        }

        void draw(int aheadMoment, int behindMoment) {
            int x = aheadMoment - 1;
            int y = behindMoment - 1;
            if (x != y && x >= 0 && x < size && y >= 0 && y < size) {
                ahead[y * words + (x >>> 6)] |= 1L << (x & 63);
            }
        }

        boolean isAhead(int x, int y) {
            return (ahead[y * words + (x >>> 6)] >>> (x & 63) & 1L) != 0;
        }

        /** False if not all can be put in an order, for a ring. */
        boolean lineUp() {
            long[] done = new long[words];
            int first = 0;
            for (int placed = 0; placed < size; placed++) {
                while (first < size && isDone(first, done)) {
                    first++;
                }
                int next = first;
                while (next < size && (isDone(next, done) || !isReady(next, done))) {
                    next++;
                }
                if (next >= size) {
                    return false;
                }
                done[next >>> 6] |= 1L << (next & 63);
                order[placed] = next;
            }
            return true;
        }

        boolean isDone(int x, long[] done) {
            return (done[x >>> 6] >>> (x & 63) & 1L) != 0;
        }

        boolean isReady(int y, long[] done) {
            for (int w = 0; w < words; w++) {
                if ((ahead[y * words + w] & ~done[w]) != 0) {
                    return false;
                }
            }
            return true;
        }

        /** One is on a ring if it comes, over others, ahead of itself. */
        int onRings() {
            for (int over = 0; over < size; over++) {
                for (int y = 0; y < size; y++) {
                    if (isAhead(over, y)) {
                        takeOver(over, y);
                    }
                }
            }
            int many = 0;
            for (int y = 0; y < size; y++) {
                if (isAhead(y, y)) {
                    many++;
                }
            }
            return many;
        }

        void takeOver(int over, int y) {
            for (int w = 0; w < words; w++) {
                ahead[y * words + w] |= ahead[over * words + w];
            }
        }

        /** Does all again in the order found, and counts what comes out otherwise. */
        int differences(Answer scratch) {
            Shelf again = new Shelf();
            int many = 0;
            for (int i = 0; i < size; i++) {
                Transaction one = committed.get(order[i]);
                View view = new View(again, i, one.number);
                for (int c = 0; c < one.calls.size(); c++) {
                    Call call = one.calls.get(c);
                    call.carryOut(view, scratch);
                    if (call.then != null && !scratch.tellsAs(call.then)) {
                        many++;
                    }
                }
                view.install(i + 1);
            }
            return many + otherKeys(again);
        }

        int otherKeys(Shelf again) {
            int many = 0;
            for (int i = 0; i < store.size(); i++) {
                Chain chain = store.chainAt(i);
                Chain redone = chain == null ? null : again.find(chain.key);
                Entry now = chain == null ? null : chain.top;
                Entry then = redone == null ? null : redone.top;
                boolean there = now != null && now.there;
                boolean thereThen = then != null && then.there;
                if (there != thereThen || there && thereThen && now.value != then.value) {
                    many++;
                }
            }
            return many;
        }
    }
}

/** README.md's words on how to use the class, call by call. */
public final class ReadmeTest extends Check {
    private static void example() {
        RingKeeper store = new RingKeeper();
        int t = store.begin(false);
        due("write", store.write(t, 7, 70L), 1);
        due("read", store.read(t, 7), 1);
        due("value", store.value(), 70);
        int place = store.save(t);
        due("save", place, 1);
        store.remove(t, 7);
        due("undo", store.undo(t, place), 1);
        due("commit", store.commit(t), 0);
        int next = store.begin(true);
        due("read by the next one", store.read(next, 7), 1);
        due("astray", store.astray(), 0);
    }

    private static void refusedThenAnew() {
        RingKeeper store = with(7);
        int first = store.begin(false);
        int second = store.begin(false);
        store.write(first, 7, 1L);
        store.write(second, 7, 2L);
        due("commit", store.commit(first), 0);
        due("commit of the same key", store.commit(second), 1);
        dueWhy(store, 1, second, first, 7);
        int anew = store.begin(false);
        due("the refused one's write is gone", store.read(anew, 7), 1);
        dueFound(store, 7, 1);
        store.write(anew, 7, 2L);
        due("commit anew", store.commit(anew), 0);
        due("the latest version", store.versionValue(7, 0), 2);
    }

    public static void main(String[] args) {
        at("README, the example");
        example();
        at("README, a refusal");
        refusedThenAnew();
        end();
    }
}

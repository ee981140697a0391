/** A new PageKeeper, each call with the answer that is due of it. */
final class Run {
    static final int MOST_CALLS = 512;

    private final PageKeeper keeper = new PageKeeper();
    private final Checks checks;
    private final String name;
    private int calls = 0;

    Run(Checks checks, String name) {
        this.checks = checks;
        this.name = name;
    }

    /** A call behind the last promised one would test nothing, so it counts as wrong. */
    private void due(String call, Object want, Checks.Call made) {
        calls++;
        String row = name + ": call " + calls + ", " + call;
        checks.due(calls > MOST_CALLS ? row + " comes too late, it" : row, calls > MOST_CALLS ? "nothing" : want, made);
    }

    int calls() {
        return calls;
    }

    Run begin(int t, Object want) {
        due("begin(" + t + ")", want, () -> keeper.begin(t));
        return this;
    }

    Run get(int t, int key, Object want) {
        due("get(" + t + ", " + key + ")", want, () -> keeper.get(t, key));
        return this;
    }

    Run put(int t, int key, int v, Object want) {
        due("put(" + t + ", " + key + ", " + v + ")", want, () -> keeper.put(t, key, v));
        return this;
    }

    /** Puts each key with ten times itself, and asks for no split. */
    Run putAll(int t, int... keys) {
        for (int key : keys) {
            put(t, key, 10 * key, 0);
        }
        return this;
    }

    Run remove(int t, int key, Object want) {
        due("remove(" + t + ", " + key + ")", want, () -> keeper.remove(t, key));
        return this;
    }

    Run commit(int t, Object want) {
        due("commit(" + t + ")", want, () -> keeper.commit(t));
        return this;
    }

    Run abort(int t, Object want) {
        due("abort(" + t + ")", want, () -> keeper.abort(t));
        return this;
    }

    Run settle(int want) {
        due("settle()", want, keeper::settle);
        return this;
    }

    Run flush(int page, int want) {
        due("flush(" + page + ")", want, () -> keeper.flush(page));
        return this;
    }

    Run backup(int page, int want) {
        due("backup(" + page + ")", want, () -> keeper.backup(page));
        return this;
    }

    Run damage(int page, int want) {
        due("damage(" + page + ")", want, () -> keeper.damage(page));
        return this;
    }

    Run crash(int want) {
        due("crash()", want, keeper::crash);
        return this;
    }

    Run page(int page, int what, int want) {
        due("page(" + page + ", " + what + ")", want, () -> keeper.page(page, what));
        return this;
    }

    Run show(int page, int i, int want) {
        due("show(" + page + ", " + i + ")", want, () -> keeper.show(page, i));
        return this;
    }

    /** All ten answers of show. */
    Run showAll(int page, int... wants) {
        for (int i = 0; i < wants.length; i++) {
            show(page, i, wants[i]);
        }
        return this;
    }

    Run count(int what, int want) {
        due("count(" + what + ")", want, () -> keeper.count(what));
        return this;
    }

    /** All nine answers of count. */
    Run countAll(int... wants) {
        for (int what = 0; what < wants.length; what++) {
            count(what, wants[what]);
        }
        return this;
    }

    Run record(int n, int what, int want) {
        due("record(" + n + ", " + what + ")", want, () -> keeper.record(n, what));
        return this;
    }

    /** All five answers of record. */
    Run recordAll(int n, int... wants) {
        for (int what = 0; what < wants.length; what++) {
            record(n, what, wants[what]);
        }
        return this;
    }

    Run lock(int t, int key, int want) {
        due("lock(" + t + ", " + key + ")", want, () -> keeper.lock(t, key));
        return this;
    }
}

/** Calls that are refused, that answer false or that only look: what stays as it was behind each of them. */
public final class RefusedTest {
    private static final int NONE = PageKeeper.NONE;
    private static final String ARGUMENT = Checks.ARGUMENT;
    private static final String STATE = Checks.STATE;

    private static final int[] NO_PLACES = {-1, 4, Integer.MIN_VALUE, Integer.MAX_VALUE};
    private static final int[] NO_KEYS = {-1, 40, Integer.MIN_VALUE, Integer.MAX_VALUE};
    private static final int[] NO_PAGES = {-1, 1, Integer.MIN_VALUE, Integer.MAX_VALUE};

    private static final int LOSERS_KEY = 9;
    private static final int OWNED_KEY = 5;
    private static final int SHARED_KEY = 7;
    private static final int SHARED_BY_BOTH = 8;

    private static final Checks CHECKS = new Checks();

    public static void main(String[] args) {
        begin();
        get();
        put();
        remove();
        commitAndAbort();
        answersOfFalse();
        settleOfNone();
        looking();
        inThePool();
        againInThePool();
        CHECKS.close("RefusedTest");
    }

    /** A loser with a key; an open transaction at place 0 that owns one and shares one, another at place 1 that shares two. */
    private static Twins twins(String name) {
        Twins twins = new Twins(CHECKS, name);
        twins.both("begin(0)", k -> k.begin(0)).both("put", k -> k.put(0, LOSERS_KEY, 90)).both("flush(0)", k -> k.flush(0));
        twins.both("crash()", k -> k.crash()).both("begin(0)", k -> k.begin(0)).both("begin(1)", k -> k.begin(1));
        twins.both("put", k -> k.put(0, OWNED_KEY, 50)).both("get", k -> k.get(1, SHARED_KEY));
        return twins.both("get", k -> k.get(0, SHARED_BY_BOTH)).both("get", k -> k.get(1, SHARED_BY_BOTH));
    }

    private static void goesOn(Twins twins) {
        twins.alike();
        twins.both("begin(2)", k -> k.begin(2)).both("put", k -> k.put(0, OWNED_KEY, 51)).both("get", k -> k.get(2, LOSERS_KEY));
        twins.both("put", k -> k.put(1, SHARED_KEY, 70)).both("put", k -> k.put(2, LOSERS_KEY, 91)).both("abort(0)", k -> k.abort(0));
        twins.both("put", k -> k.put(1, SHARED_BY_BOTH, 80)).both("commit(2)", k -> k.commit(2)).both("crash()", k -> k.crash());
        twins.both("settle()", k -> k.settle()).both("count(1)", k -> k.count(1)).both("show(0, 1)", k -> k.show(0, 1));
    }

    private static void begin() {
        Twins twins = twins("begin, refused");
        for (int t : NO_PLACES) {
            twins.idle("begin(" + t + ")", ARGUMENT, k -> k.begin(t));
        }
        goesOn(twins.idle("begin(0)", STATE, k -> k.begin(0)).idle("begin(1)", STATE, k -> k.begin(1)));
    }

    private static void get() {
        Twins twins = twins("get, refused");
        for (int t : NO_PLACES) {
            twins.idle("get(" + t + ", 9)", ARGUMENT, k -> k.get(t, LOSERS_KEY));
        }
        for (int key : NO_KEYS) {
            twins.idle("get(0, " + key + ")", ARGUMENT, k -> k.get(0, key)).idle("get(2, " + key + ")", ARGUMENT, k -> k.get(2, key));
        }
        twins.idle("get(2, 9), not open, a loser's key", STATE, k -> k.get(2, LOSERS_KEY));
        twins.idle("get(3, 5), not open", STATE, k -> k.get(3, OWNED_KEY)).idle("get(2, 0), not open", STATE, k -> k.get(2, 0));
        goesOn(twins.idle("get(1, 5), an own lock of another", STATE, k -> k.get(1, OWNED_KEY)));
    }

    private static void put() {
        Twins twins = twins("put, refused");
        for (int t : NO_PLACES) {
            twins.idle("put(" + t + ", 9, 1)", ARGUMENT, k -> k.put(t, LOSERS_KEY, 1));
        }
        for (int key : NO_KEYS) {
            twins.idle("put(0, " + key + ", 1)", ARGUMENT, k -> k.put(0, key, 1)).idle("put(2, " + key + ", 1)", ARGUMENT, k -> k.put(2, key, 1));
        }
        twins.idle("put(2, 9, 1), not open, a loser's key", STATE, k -> k.put(2, LOSERS_KEY, 1));
        twins.idle("put(3, 0, 1), not open", STATE, k -> k.put(3, 0, 1));
        twins.idle("put(1, 5, 1), an own lock of another", STATE, k -> k.put(1, OWNED_KEY, 1));
        twins.idle("put(0, 7, 1), a shared lock of another", STATE, k -> k.put(0, SHARED_KEY, 1));
        goesOn(twins.idle("put(0, 8, 1), a shared lock of both", STATE, k -> k.put(0, SHARED_BY_BOTH, 1)));
    }

    private static void remove() {
        Twins twins = twins("remove, refused");
        for (int t : NO_PLACES) {
            twins.idle("remove(" + t + ", 9)", ARGUMENT, k -> k.remove(t, LOSERS_KEY));
        }
        for (int key : NO_KEYS) {
            twins.idle("remove(0, " + key + ")", ARGUMENT, k -> k.remove(0, key)).idle("remove(2, " + key + ")", ARGUMENT, k -> k.remove(2, key));
        }
        twins.idle("remove(2, 9), not open, a loser's key", STATE, k -> k.remove(2, LOSERS_KEY));
        twins.idle("remove(3, 0), not open", STATE, k -> k.remove(3, 0));
        twins.idle("remove(1, 5), an own lock of another", STATE, k -> k.remove(1, OWNED_KEY));
        twins.idle("remove(0, 7), a shared lock of another", STATE, k -> k.remove(0, SHARED_KEY));
        goesOn(twins.idle("remove(1, 8), a shared lock of both", STATE, k -> k.remove(1, SHARED_BY_BOTH)));
    }

    private static void commitAndAbort() {
        Twins twins = twins("commit and abort, refused");
        for (int t : NO_PLACES) {
            twins.idle("commit(" + t + ")", ARGUMENT, k -> k.commit(t)).idle("abort(" + t + ")", ARGUMENT, k -> k.abort(t));
        }
        twins.idle("commit(2)", STATE, k -> k.commit(2)).idle("commit(3)", STATE, k -> k.commit(3));
        goesOn(twins.idle("abort(2)", STATE, k -> k.abort(2)).idle("abort(3)", STATE, k -> k.abort(3)));
    }

    private static void answersOfFalse() {
        Twins twins = twins("flush, backup and damage that answer false");
        for (int page : NO_PAGES) {
            twins.idle("flush(" + page + ")", 0, k -> k.flush(page)).idle("backup(" + page + ")", 0, k -> k.backup(page));
            twins.idle("damage(" + page + ")", 0, k -> k.damage(page));
        }
        twins.both("flush(0)", k -> k.flush(0)).idle("flush(0) again", 0, k -> k.flush(0));
        goesOn(twins.both("damage(0)", k -> k.damage(0)).idle("damage(0) again", 0, k -> k.damage(0)).idle("flush(0)", 0, k -> k.flush(0)));
    }

    private static void settleOfNone() {
        Twins twins = twins("settle of no loser").both("settle()", k -> k.settle()).both("count(7)", k -> k.count(7));
        goesOn(twins.idle("settle() again", 0, k -> k.settle()));
    }

    private static void looking() {
        Twins twins = twins("page, show, count, record and lock");
        for (int i = -1; i <= 10; i++) {
            int what = i;
            boolean named = what >= 0 && what <= 5;
            twins.idle("page(1, " + what + ")", NONE, k -> k.page(1, what)).idle("show(1, " + what + ")", NONE, k -> k.show(1, what));
            twins.idle("page(0, " + what + ") is NONE", what == 2 || !named ? 1 : 0, k -> k.page(0, what) == NONE);
            twins.idle("show(0, " + what + ") is at least NONE", 1, k -> k.show(0, what) >= NONE);
            twins.idle("count(" + what + ") is NONE", what < 0 || what > 8 ? 1 : 0, k -> k.count(what) == NONE);
            twins.idle("record(1, " + what + ") is NONE", what < 0 || what > 4 ? 1 : 0, k -> k.record(1, what) == NONE);
            twins.idle("lock(0, " + what + ") is NONE", what < 0 ? 1 : 0, k -> k.lock(0, what) == NONE);
            twins.idle("lock(2, " + what + ")", NONE, k -> k.lock(2, what));
        }
        goesOn(twins);
    }

    /** Ten keys in seven pages by the transaction at place 0, which owns them all; page 1 is not in the pool. */
    private static Twins sevenPages(String name) {
        Twins twins = new Twins(CHECKS, name).both("begin(0)", k -> k.begin(0)).both("begin(1)", k -> k.begin(1));
        for (int i = 0; i < 10; i++) {
            int key = i;
            twins.both("put(0, " + key + ")", k -> k.put(0, key, key));
        }
        return twins.both("count(0)", k -> k.count(0)).both("page(1, 0)", k -> k.page(1, 0));
    }

    private static void inThePool() {
        Twins twins = sevenPages("refused calls fix nothing");
        twins.idle("get(1, 0)", STATE, k -> k.get(1, 0)).idle("put(1, 2, 1)", STATE, k -> k.put(1, 2, 1));
        twins.idle("remove(1, 4)", STATE, k -> k.remove(1, 4)).idle("get(2, 0)", STATE, k -> k.get(2, 0));
        twins.idle("get(0, 40)", ARGUMENT, k -> k.get(0, 40)).idle("put(0, -1, 1)", ARGUMENT, k -> k.put(0, -1, 1));
        twins.alikeInTheirPool(7).both("count(3)", k -> k.count(3)).both("count(4)", k -> k.count(4));
    }

    private static void againInThePool() {
        Twins looked = sevenPages("calls that only look fix nothing");
        looked.idle("show(1, 1)", 2, k -> k.show(1, 1)).idle("show(2, 1)", 2, k -> k.show(2, 1)).idle("page(2, 0)", 1, k -> k.page(2, 0));
        looked.idle("page(3, 5)", 4, k -> k.page(3, 5)).idle("record(1, 1)", 0, k -> k.record(1, 1)).idle("flush(1)", 0, k -> k.flush(1));
        looked.alikeInTheirPool(7).both("count(3)", k -> k.count(3)).both("count(4)", k -> k.count(4));

        Twins stored = sevenPages("flush and damage fix nothing");
        stored.idle("damage(2)", 1, k -> k.damage(2)).idle("flush(2)", 1, k -> k.flush(2)).idle("flush(3)", 1, k -> k.flush(3));
        stored.alikeInTheirPool(7).both("count(3)", k -> k.count(3));
    }
}

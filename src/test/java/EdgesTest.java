/** The edges of each promise: the least and the greatest argument and those just outside, none, one and many, and which exception comes first. */
public final class EdgesTest {
    private static final int NONE = PageKeeper.NONE;
    private static final String ARGUMENT = Checks.ARGUMENT;
    private static final String STATE = Checks.STATE;
    private static final String ELEMENT = Checks.ELEMENT;

    private static final int[] NO_PLACES = {-1, 4, Integer.MIN_VALUE, Integer.MAX_VALUE};
    private static final int[] NO_KEYS = {-1, 40, Integer.MIN_VALUE, Integer.MAX_VALUE};
    private static final int[] FAR = {Integer.MIN_VALUE, Integer.MAX_VALUE};

    private static final Checks CHECKS = new Checks();

    private static Run run(String name) {
        return new Run(CHECKS, name);
    }

    public static void main(String[] args) {
        constructor();
        beginAtEveryPlace();
        beginRefused();
        wrongPlacesAndKeys();
        argumentBeforeState();
        stateBeforeElement();
        getLocks();
        getHasALockAlready();
        putLocks();
        putAnswersSplits();
        removeLocks();
        removeAnswers();
        commitNoneAndOne();
        abortNoneOneMany();
        settleNoneOneMany();
        flushEdges();
        backupEdges();
        damageEdges();
        crashNoneOneMany();
        pageEdges();
        showEdges();
        countEdges();
        recordEdges();
        lockEdges();
        CHECKS.close("EdgesTest");
    }

    private static void constructor() {
        Run r = run("1: An empty tree and log, no transactions");
        r.countAll(1, 0, 0, 0, 0, 0, 0, 0, 0).count(9, NONE);
        r.showAll(0, 0, 0, NONE, NONE, NONE, NONE, NONE, NONE, NONE, NONE).show(1, 0, NONE);
        for (int t = 0; t < 4; t++) {
            r.commit(t, STATE).abort(t, STATE).get(t, 0, STATE).put(t, 0, 0, STATE).remove(t, 0, STATE).lock(t, 0, NONE);
        }
        r.settle(0).crash(0).flush(0, 0).countAll(1, 0, 0, 0, 0, 0, 0, 0, 0);
    }

    private static void beginAtEveryPlace() {
        Run r = run("2: its serial number, at place 0 and at place 3");
        r.begin(0, 1).begin(3, 2).begin(1, 3).begin(2, 4).count(8, 4).lock(0, 0, 0).lock(3, 0, 0);
        for (int n = 5; n <= 60; n++) {
            r.commit(n % 4, n - 4).begin(n % 4, n);
        }
        r.count(8, 60).count(1, 56);
    }

    private static void beginRefused() {
        Run r = run("2: IllegalArgumentException when there is no such place; else IllegalStateException when one is open there");
        for (int t : NO_PLACES) {
            r.begin(t, ARGUMENT);
        }
        r.begin(0, 1).begin(0, STATE).begin(3, 2).begin(3, STATE).begin(1, 3).begin(2, 4);
        for (int t : NO_PLACES) {
            r.begin(t, ARGUMENT);
        }
        r.begin(1, STATE).begin(2, STATE).count(8, 4).abort(2, 0).begin(2, 5).begin(2, STATE);
    }

    private static void wrongPlacesAndKeys() {
        Run r = run("3 to 7: IllegalArgumentException when there is no such place or key");
        for (int open = 0; open < 2; open++) {
            for (int t : NO_PLACES) {
                r.get(t, 0, ARGUMENT).put(t, 0, 1, ARGUMENT).remove(t, 0, ARGUMENT).commit(t, ARGUMENT).abort(t, ARGUMENT);
                r.get(t, 39, ARGUMENT).put(t, 39, 1, ARGUMENT).remove(t, 39, ARGUMENT);
            }
            for (int key : NO_KEYS) {
                r.get(0, key, ARGUMENT).put(0, key, 1, ARGUMENT).remove(0, key, ARGUMENT);
                r.get(3, key, ARGUMENT).put(3, key, 1, ARGUMENT).remove(3, key, ARGUMENT);
                r.get(-1, key, ARGUMENT).put(4, key, 1, ARGUMENT).remove(4, key, ARGUMENT);
            }
            r.countAll(1, 0, 0, 0, 0, 0, 0, 0, 2 * open);
            if (open == 0) {
                r.begin(0, 1).begin(3, 2);
            }
        }
        r.put(0, 0, 1, 0).put(0, 39, 1, 0).put(3, 1, 1, 0).put(3, 38, 1, 0).get(0, 0, 1).get(3, 38, 1);
        r.remove(0, 39, 1).remove(3, 1, 1).count(1, 6);
    }

    private static void argumentBeforeState() {
        Run r = run("3 to 5: IllegalArgumentException; else IllegalStateException when no transaction is open at t");
        r.get(1, 40, ARGUMENT).get(1, 39, STATE).get(1, -1, ARGUMENT).get(1, 0, STATE);
        r.put(1, 40, 1, ARGUMENT).put(1, 39, 1, STATE).put(1, -1, 1, ARGUMENT).put(1, 0, 1, STATE);
        r.remove(1, 40, ARGUMENT).remove(1, 39, STATE).remove(1, -1, ARGUMENT).remove(1, 0, STATE);
        r.begin(1, 1).commit(1, 1).get(1, 40, ARGUMENT).put(1, 40, 1, ARGUMENT).remove(1, 40, ARGUMENT);
        r.get(1, 0, STATE).put(1, 0, 1, STATE).remove(1, 0, STATE).commit(1, STATE).abort(1, STATE).count(1, 1).count(3, 0);
    }

    private static void stateBeforeElement() {
        Run r = run("3 and 5: IllegalStateException before NoSuchElementException");
        r.begin(0, 1).begin(1, 2).put(0, 5, 50, 0).remove(0, 5, 50).get(1, 5, STATE).remove(1, 5, STATE).lock(1, 5, 0);
        r.get(0, 6, ELEMENT).remove(1, 6, STATE).get(1, 6, ELEMENT).remove(0, 6, STATE).lock(0, 6, 1).lock(1, 6, 1);
        r.commit(1, 3).remove(0, 6, ELEMENT).lock(0, 6, 2).get(0, 5, ELEMENT).remove(0, 5, ELEMENT).count(1, 3);
    }

    private static void getLocks() {
        Run r = run("3: a lock, SHARED; IllegalStateException when another open transaction has an own one");
        for (int t = 0; t < 4; t++) {
            r.begin(t, t + 1).get(t, 9, ELEMENT).lock(t, 9, 1);
        }
        r.commit(0, 1).commit(1, 2).commit(3, 3).put(2, 9, 90, 0).lock(2, 9, 2);
        for (int t : new int[] {0, 1, 3}) {
            r.begin(t, t == 3 ? 7 : t + 5).get(t, 9, STATE).lock(t, 9, 0).get(t, 8, ELEMENT).get(t, 10, ELEMENT);
        }
        r.get(2, 9, 90).commit(2, 5).get(0, 9, 90).get(1, 9, 90).get(3, 9, 90);
    }

    private static void getHasALockAlready() {
        Run r = run("3: SHARED if it has none");
        r.begin(0, 1).put(0, 1, 10, 0).get(0, 1, 10).lock(0, 1, 2).get(0, 2, ELEMENT).get(0, 2, ELEMENT).lock(0, 2, 1);
        r.begin(1, 2).get(1, 1, STATE).get(1, 2, ELEMENT).remove(0, 1, 10).get(0, 1, ELEMENT).lock(0, 1, 2);
    }

    private static void putLocks() {
        Run r = run("4: an OWN one: IllegalStateException when another open transaction has any lock on the key");
        r.begin(0, 1).begin(3, 2).get(0, 1, ELEMENT).put(3, 1, 1, STATE).lock(3, 1, 0).put(0, 1, 10, 0).lock(0, 1, 2);
        r.put(3, 1, 1, STATE).lock(3, 1, 0).put(3, 0, 1, 0).put(3, 2, 1, 0).put(0, 0, 1, STATE).put(0, 2, 1, STATE);
        r.get(0, 5, ELEMENT).get(3, 5, ELEMENT).put(0, 5, 1, STATE).put(3, 5, 1, STATE).lock(0, 5, 1).lock(3, 5, 1);
        r.abort(0, 1).put(3, 5, 1, 0).put(3, 1, 1, 0).lock(3, 5, 2).lock(3, 1, 2).put(3, 1, 2, 0).count(1, 8);
    }

    private static void putAnswersSplits() {
        Run r = Trees.rootAndLeafFull(run("4: answers how many splits that took: none, one, two"));
        r.put(0, 39, 1, 0).put(0, 3, 30, 2).put(0, 4, 40, 0).put(0, 5, 50, 1);

        Run three = Trees.threeLevelsFull(run("4: answers how many splits that took: three"));
        three.put(0, 7, 70, 3).count(0, 19).count(1, 71).showAll(0, 1, 2, 15, 16, NONE, NONE, 18, NONE, NONE, NONE);
        three.showAll(15, 1, 3, 5, 6, 17, NONE, 5, 13, NONE, NONE).showAll(6, 1, 3, 4, 18, 2, NONE, 8, 10, NONE, NONE);
        three.showAll(4, 0, 3, 5, 6, 7, NONE, 50, 60, 70, NONE).showAll(18, 0, 2, 8, 9, NONE, NONE, 80, 90, NONE, NONE);
        three.record(64, 1, 0).record(66, 1, 6).record(67, 1, 15).record(69, 1, 4).recordAll(70, 5, 6, 66, 0, 0).record(71, 0, 1);
    }

    private static void removeLocks() {
        Run r = run("5: As put");
        r.begin(0, 1).begin(1, 2).putAll(0, 1, 2).commit(0, 3).begin(0, 3).get(0, 1, 10).remove(1, 1, STATE).lock(1, 1, 0);
        r.get(1, 1, 10).remove(0, 1, STATE).lock(0, 1, 1).commit(1, 4).remove(0, 1, 10).lock(0, 1, 2).begin(1, 4);
        r.remove(1, 1, STATE).get(1, 1, STATE).lock(1, 1, 0).remove(1, 2, 20).lock(1, 2, 2).abort(0, 1).remove(1, 1, 10);
    }

    private static void removeAnswers() {
        Run r = run("5: NoSuchElementException when it has no entry (the lock stays). Answers the value that it had");
        r.begin(0, 1).remove(0, 0, ELEMENT).remove(0, 39, ELEMENT).lock(0, 0, 2).lock(0, 39, 2).count(1, 0);
        r.put(0, 0, NONE, 0).put(0, 39, 5, 0).put(0, 39, 0, 0).remove(0, 0, NONE).remove(0, 39, 0);
        r.remove(0, 0, ELEMENT).remove(0, 39, ELEMENT).count(1, 5).show(0, 1, 0);
    }

    private static void commitNoneAndOne() {
        Run r = run("6: COMMIT is written, and the log forced up to it. Answers the number of that record");
        r.begin(0, 1).commit(0, 1).count(2, 1).commit(0, STATE).abort(0, STATE).count(1, 1);
        r.begin(3, 2).put(3, 1, 1, 0).commit(3, 3).recordAll(3, 6, NONE, NONE, 2, 0).count(2, 3).count(4, 0).count(3, 1);
        r.crash(0).count(1, 3).begin(3, 3).get(3, 1, 1);

        Run others = run("6: the records of others are forced with it");
        others.begin(0, 1).begin(1, 2).put(1, 5, 5, 0).commit(0, 2).count(2, 2).put(1, 6, 6, 0).crash(1).count(1, 2);
    }

    private static void abortNoneOneMany() {
        Run none = run("7: Answers how many records were undone: none");
        none.begin(0, 1).abort(0, 0).count(1, 1).count(2, 0).abort(0, STATE).commit(0, STATE).count(1, 1);
        Run one = run("7: Answers how many records were undone: one");
        one.begin(0, 1).begin(1, 2).put(0, 1, 1, 0).put(1, 2, 2, 0).abort(0, 1).lock(0, 1, NONE).count(1, 4).show(0, 1, 1);
        Run many = run("7: Answers how many records were undone: as many as there are, but none of a split");
        Trees.tenKeys(many).abort(0, 10).count(1, 33).count(0, 7).record(33, 0, 7).begin(0, 2);
        for (int key = 0; key < 10; key++) {
            many.get(0, key, ELEMENT);
        }
    }

    private static void settleNoneOneMany() {
        Run none = run("8: how many there were: none");
        none.settle(0).begin(0, 1).put(0, 1, 1, 0).settle(0).count(1, 1).lock(0, 1, 2).commit(0, 2).crash(0).settle(0).count(1, 2);
        Run one = run("8: how many there were: one");
        one.begin(0, 1).put(0, 1, 1, 0).flush(0, 1).crash(1).settle(1).count(7, 0).settle(0).count(1, 3);
        Run order = run("8: the one with the least serial number first");
        order.begin(3, 1).begin(2, 2).begin(0, 3).begin(1, 4).put(1, 1, 1, 0).put(0, 2, 2, 0).put(2, 3, 3, 0).put(3, 4, 4, 0);
        order.flush(0, 1).crash(4).settle(4).record(5, 3, 1).record(7, 3, 2).record(9, 3, 3).record(11, 3, 4).count(1, 12);
        for (int n = 6; n <= 12; n += 2) {
            order.record(n, 0, 7).record(n, 3, n / 2 - 2);
        }
    }

    private static void flushEdges() {
        Run r = Trees.fiveKeys(run("9: true; false when it is not in the pool, or was not to be written"));
        r.flush(-1, 0).flush(3, 0).flush(Integer.MIN_VALUE, 0).flush(Integer.MAX_VALUE, 0).count(4, 0);
        r.flush(2, 1).flush(2, 0).flush(0, 1).flush(0, 0).count(4, 2).page(2, 1, 8).page(0, 1, 7);
        r.commit(0, 9).crash(0).flush(1, 0).page(1, 1, 0).count(4, 2).backup(1, 1).flush(1, 1).flush(1, 0).count(4, 3);
        Run clean = run("9: false when its LSN is that of its image, 0");
        clean.backup(0, 1).page(0, 0, 1).flush(0, 0).count(4, 0);
        Run damaged = run("9: false when its LSN is that of its image, though that is damaged");
        damaged.begin(0, 1).put(0, 1, 1, 0).flush(0, 1).damage(0, 1).flush(0, 0).page(0, 3, 1).count(4, 1);
    }

    private static void backupEdges() {
        Run r = Trees.fiveKeys(run("10: true; false when there is no such page"));
        r.backup(-1, 0).backup(3, 0).backup(Integer.MIN_VALUE, 0).backup(Integer.MAX_VALUE, 0).count(2, 0).count(3, 1);
        r.backup(2, 1).page(2, 2, 8).count(2, 8).backup(0, 1).page(0, 2, 7).count(2, 8).page(1, 2, NONE).count(4, 0);
        r.put(0, 4, 41, 0).page(2, 2, 8).backup(2, 1).page(2, 2, 9).count(2, 9).page(2, 1, 0);
        Run fixed = run("10: A page is fixed");
        fixed.backup(0, 1).page(0, 0, 1).count(3, 1).page(0, 2, 0).count(2, 0).backup(0, 1).count(3, 1);
        Run brought = run("10: its backup becomes what it is, not what its image is");
        brought.begin(0, 1).put(0, 1, 10, 0).put(0, 2, 20, 0).commit(0, 3).crash(0).page(0, 1, 0).backup(0, 1).page(0, 2, 2);
        brought.damage(0, 1).crash(0).begin(0, 2).get(0, 2, 20).count(6, 1).count(5, 2);
    }

    private static void damageEdges() {
        Run r = Trees.fiveKeys(run("11: true; false when there is no such page, or it is so already"));
        r.damage(-1, 0).damage(3, 0).damage(Integer.MIN_VALUE, 0).damage(Integer.MAX_VALUE, 0);
        r.damage(0, 1).damage(0, 0).damage(2, 1).damage(2, 0).page(0, 3, 1).page(1, 3, 0).page(2, 3, 1);
        r.flush(2, 1).page(2, 3, 0).damage(2, 1).page(2, 3, 1).page(2, 1, 8).count(4, 1);
        Run quiet = run("11: the image of a page, and not the page in the pool");
        quiet.begin(0, 1).put(0, 1, 10, 0).flush(0, 1).damage(0, 1).get(0, 1, 10).show(0, 6, 10).count(6, 0).count(3, 1).page(0, 0, 1);
        Run out = run("11: the image of a page that is not in the pool");
        out.damage(0, 1).page(0, 0, 0).count(3, 0).crash(0).page(0, 3, 1).damage(0, 0);
    }

    private static void crashNoneOneMany() {
        Run r = run("12: how many losers there are then");
        r.crash(0).begin(0, 1).crash(0).begin(0, 2).put(0, 1, 1, 0).crash(0).begin(0, 3).put(0, 1, 1, 0).flush(0, 1).crash(1);
        r.crash(1).begin(0, 4).put(0, 2, 1, 0).flush(0, 1).crash(2).crash(2).count(7, 2).settle(2).crash(2).count(1, 2);
        Run four = run("12: losers at all four places at once");
        four.begin(0, 1).begin(1, 2).begin(2, 3).begin(3, 4).put(0, 1, 1, 0).put(1, 2, 1, 0).put(2, 3, 1, 0).put(3, 4, 1, 0);
        four.put(3, 4, 2, 0).flush(0, 1).crash(4).count(7, 4).begin(0, 5).get(0, 3, ELEMENT).count(7, 3);
    }

    private static void pageEdges() {
        Run r = Trees.fiveKeys(run("13: what = 0 .. 5; NONE when there is no such page or what is none of these"));
        r.flush(2, 1).backup(1, 1).damage(0, 1);
        int[][] wants = {{1, 0, NONE, 1, 7, 5}, {1, 0, 5, 0, 5, 1}, {1, 8, NONE, 0, 8, 2}};
        for (int page = 0; page < 3; page++) {
            for (int what = 0; what <= 5; what++) {
                r.page(page, what, wants[page][what]);
            }
            r.page(page, -1, NONE).page(page, 6, NONE).page(page, FAR[0], NONE).page(page, FAR[1], NONE);
        }
        for (int what = -1; what <= 6; what++) {
            r.page(-1, what, NONE).page(3, what, NONE).page(FAR[0], what, NONE).page(FAR[1], what, NONE);
        }
    }

    private static void showEdges() {
        Run r = Trees.nineKeys(run("14: i = 0 .. 9; NONE when there is no such page, or nothing there"));
        r.showAll(0, 1, 4, 1, 2, 3, 4, 2, 4, 6, NONE).showAll(4, 0, 3, 6, 7, 8, NONE, 60, 70, 80, NONE);
        for (int page = 0; page < 5; page++) {
            r.show(page, -1, NONE).show(page, 10, NONE).show(page, FAR[0], NONE).show(page, FAR[1], NONE);
        }
        for (int i = -1; i <= 10; i++) {
            r.show(-1, i, NONE).show(5, i, NONE).show(FAR[0], i, NONE).show(FAR[1], i, NONE);
        }
        Run stale = Trees.fiveKeys(run("14: nothing of what a page was before"));
        stale.remove(0, 0, 0).showAll(1, 0, 1, 1, NONE, NONE, NONE, 10, NONE, NONE, NONE);
        stale.remove(0, 4, 40).showAll(2, 0, 2, 2, 3, NONE, NONE, 20, 30, NONE, NONE);
        Run fixes = Trees.fiveKeys(run("14: Nothing is fixed for that"));
        fixes.commit(0, 9).crash(0).damage(1, 1).showAll(1, 0, 2, 0, 1, NONE, NONE, 0, 10, NONE, NONE).showAll(0, 1, 2, 1, 2);
        fixes.page(0, 0, 0).page(1, 0, 0).count(3, 1).count(5, 0).count(6, 0);
    }

    private static void countEdges() {
        Run r = Trees.tenKeys(run("15: what = 0 .. 8; NONE for another what"));
        r.damage(2, 1).get(0, 1, 10).crash(1).begin(1, 2).countAll(4, 12, 12, 2, 2, 0, 0, 1, 2);
        r.damage(2, 1).get(1, 30, ELEMENT).get(1, 2, ELEMENT).countAll(4, 19, 12, 6, 2, 11, 1, 0, 2);
        r.count(-1, NONE).count(9, NONE).count(FAR[0], NONE).count(FAR[1], NONE);
    }

    private static void recordEdges() {
        Run r = Trees.fiveKeys(run("16: what = 0 .. 4; NONE when there is no such record or what is none of these"));
        r.putAll(0, 5).put(0, 6, 60, 1).remove(0, 6, 60).begin(1, 2).commit(1, 15).abort(0, 8);
        r.recordAll(1, 1, 0, 0, 1, 0).recordAll(10, 3, 3, 0, 0, 0).recordAll(11, 4, 2, 9, 0, 0).recordAll(12, 5, 0, 7, 0, 0);
        r.recordAll(14, 2, 3, 13, 1, 0).recordAll(15, 6, NONE, NONE, 2, 0).recordAll(16, 1, 3, 14, 1, 14);
        r.recordAll(17, 2, 3, 16, 1, 13).recordAll(23, 2, 1, 22, 1, 1).recordAll(24, 7, NONE, NONE, 1, 0).count(1, 24);
        for (int n : new int[] {1, 5, 11, 15, 24}) {
            r.record(n, -1, NONE).record(n, 5, NONE).record(n, FAR[0], NONE).record(n, FAR[1], NONE);
        }
        for (int what = -1; what <= 5; what++) {
            r.record(0, what, NONE).record(-1, what, NONE).record(25, what, NONE).record(FAR[0], what, NONE).record(FAR[1], what, NONE);
        }
    }

    private static void lockEdges() {
        Run r = run("17: 0 none, 1 shared, 2 own; NONE when there is no such place or key, or no transaction is open there");
        r.lock(0, 0, NONE).begin(0, 1).begin(3, 2).get(0, 0, ELEMENT).put(0, 39, 1, 0).get(3, 0, ELEMENT).put(3, 38, 1, 0);
        r.lock(0, 0, 1).lock(0, 1, 0).lock(0, 38, 0).lock(0, 39, 2).lock(3, 0, 1).lock(3, 39, 0).lock(3, 38, 2);
        r.lock(1, 0, NONE).lock(2, 39, NONE);
        for (int t : NO_PLACES) {
            r.lock(t, 0, NONE).lock(t, 39, NONE).lock(t, 40, NONE);
        }
        for (int key : NO_KEYS) {
            r.lock(0, key, NONE).lock(3, key, NONE).lock(1, key, NONE);
        }
        r.commit(0, 3).lock(0, 0, NONE).lock(0, 39, NONE).abort(3, 1).lock(3, 38, NONE).begin(0, 3).lock(0, 39, 0);
        r.put(0, 1, 1, 0).flush(0, 1).crash(1).lock(0, 1, NONE).begin(0, 4).lock(0, 1, 0).count(7, 1);
    }
}

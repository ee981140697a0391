/** Each promise by runs whose answers were worked out by hand from the document. */
public final class PromisesTest {
    private static final int NONE = PageKeeper.NONE;
    private static final String ARGUMENT = Checks.ARGUMENT;
    private static final String STATE = Checks.STATE;
    private static final String ELEMENT = Checks.ELEMENT;

    private static final Checks CHECKS = new Checks();

    private static Run run(String name) {
        return new Run(CHECKS, name);
    }

    public static void main(String[] args) {
        newObject();
        begin();
        getOrdinary();
        getWrongInputs();
        getMeetsLoser();
        putOrdinary();
        putSplitsTwice();
        putToTheSeparator();
        splitsFixInTheirOrder();
        putWrongInputs();
        remove();
        commit();
        abort();
        abortThatSplits();
        settle();
        settleGoesOnWhereACrashStopped();
        flush();
        flushForcesWholeSplits();
        poolLetsTheLeastLatelyFixedLeave();
        flushFixesNothing();
        backup();
        damage();
        damagedImageThatIsNotWritten();
        crash();
        crashUnmakesPages();
        crashUnsplitsTheRoot();
        numbersThatACrashFreed();
        crashKeepsWhatIsStored();
        losersOfSeveralCrashes();
        page();
        show();
        count();
        record();
        lock();
        CHECKS.close("PromisesTest");
    }

    private static void newObject() {
        Run r = run("1 a new object");
        CHECKS.due("NONE", -1, () -> PageKeeper.NONE);
        r.countAll(1, 0, 0, 0, 0, 0, 0, 0, 0);
        r.showAll(0, 0, 0, NONE, NONE, NONE, NONE, NONE, NONE, NONE, NONE);
        r.page(0, 0, 0).page(0, 1, 0).page(0, 2, NONE).page(0, 3, 0).page(0, 4, 0).page(0, 5, 0);
        r.page(1, 0, NONE).record(1, 0, NONE).record(0, 0, NONE);
        for (int t = 0; t < 4; t++) {
            r.lock(t, 0, NONE).commit(t, STATE);
        }
        r.settle(0).crash(0).flush(0, 0);
        r.countAll(1, 0, 0, 0, 0, 0, 0, 0, 0);
        r.begin(0, 1).put(0, 1, 1, 0);
        run("1 another new object").countAll(1, 0, 0, 0, 0, 0, 0, 0, 0).lock(0, 1, NONE);
    }

    private static void begin() {
        Run r = run("2 begin");
        r.begin(3, 1).begin(0, 2).begin(1, 3).begin(2, 4).count(8, 4);
        r.begin(2, STATE).begin(4, ARGUMENT).begin(-1, ARGUMENT);
        r.begin(Integer.MIN_VALUE, ARGUMENT).begin(Integer.MAX_VALUE, ARGUMENT).count(8, 4);
        r.commit(2, 1).begin(2, 5).abort(0, 0).begin(0, 6).begin(0, STATE);
        r.count(1, 2).lock(0, 0, 0);
        r.crash(0).count(8, 6).begin(0, 7).begin(2, 8).count(8, 8);
        r.count(1, 1).count(3, 0);
    }

    private static void getOrdinary() {
        Run r = run("3 get");
        r.begin(0, 1).begin(1, 2).begin(2, 3);
        r.get(0, 7, ELEMENT).lock(0, 7, 1).page(0, 0, 1).count(3, 1);
        r.put(0, 7, -1, 0).get(0, 7, -1).lock(0, 7, 2);
        r.get(1, 7, STATE).lock(1, 7, 0);
        r.put(0, 39, Integer.MIN_VALUE, 0).put(0, 0, Integer.MAX_VALUE, 0).commit(0, 4);
        r.get(1, 7, -1).get(2, 7, -1).lock(1, 7, 1).lock(2, 7, 1);
        r.get(2, 39, Integer.MIN_VALUE).get(2, 0, Integer.MAX_VALUE).get(2, 38, ELEMENT);
        r.count(1, 4).count(3, 1).count(4, 0);
    }

    private static void getWrongInputs() {
        Run r = run("3 get, wrong inputs");
        r.get(0, 0, STATE).get(0, 40, ARGUMENT).get(0, -1, ARGUMENT).get(4, 0, ARGUMENT).get(-1, 0, ARGUMENT);
        r.begin(0, 1).get(0, 40, ARGUMENT).get(0, Integer.MAX_VALUE, ARGUMENT).get(0, Integer.MIN_VALUE, ARGUMENT);
        r.get(1, 0, STATE).get(1, 40, ARGUMENT);
        r.count(3, 0).page(0, 0, 0);
        r.begin(1, 2).put(0, 5, 1, 0).get(1, 5, STATE).get(1, 5, STATE).lock(1, 5, 0).lock(0, 5, 2);
        r.count(1, 1).abort(0, 1).get(1, 5, ELEMENT).lock(1, 5, 1);
    }

    private static void getMeetsLoser() {
        Run r = run("3 get that meets a loser");
        r.begin(0, 1).put(0, 5, 50, 0).put(0, 6, 60, 0).commit(0, 3);
        r.begin(0, 2).put(0, 5, 51, 0).begin(1, 3).put(1, 6, 61, 0).remove(1, 5, STATE).flush(0, 1);
        r.crash(2).begin(0, 4).get(0, 7, ELEMENT).count(7, 2).count(5, 0);
        r.get(0, 6, 60).count(7, 1).recordAll(6, 1, 0, 5, 3, 5).recordAll(7, 7, NONE, NONE, 3, 0);
        r.get(0, 5, 50).count(7, 0).recordAll(8, 1, 0, 6, 2, 4).recordAll(9, 7, NONE, NONE, 2, 0);
        r.count(1, 9).lock(0, 5, 1).lock(0, 6, 1).settle(0);
    }

    private static void putOrdinary() {
        Run r = run("4 put");
        r.begin(0, 1).putAll(0, 5, 9, 1, 3).put(0, 3, 31, 0).put(0, 9, -1, 0);
        r.showAll(0, 0, 4, 1, 3, 5, 9, 10, 31, 50, -1);
        r.lock(0, 5, 2).lock(0, 4, 0).recordAll(5, 1, 0, 4, 1, 0).count(1, 6).count(2, 0);
        r.put(0, 7, 70, 1);
        r.showAll(0, 1, 2, 1, 2, NONE, NONE, 5, NONE, NONE, NONE);
        r.showAll(1, 0, 2, 1, 3, NONE, NONE, 10, 31, NONE, NONE);
        r.showAll(2, 0, 3, 5, 7, 9, NONE, 50, 70, -1, NONE);
        r.recordAll(7, 3, 1, 0, 0, 0).recordAll(8, 3, 2, 0, 0, 0).recordAll(9, 3, 0, 6, 0, 0);
        r.recordAll(10, 1, 2, 8, 1, 0);
        r.put(0, 5, 51, 0).record(11, 1, 2).put(0, 4, 40, 0).record(12, 1, 1);
    }

    private static void putSplitsTwice() {
        Run r = Trees.rootAndLeafFull(run("4 put that splits twice"));
        r.put(0, 3, 30, 2).count(0, 8).count(1, 27);
        r.recordAll(21, 3, 5, 0, 0, 0).recordAll(22, 3, 6, 0, 0, 0).recordAll(23, 3, 0, 19, 0, 0);
        r.recordAll(24, 3, 7, 0, 0, 0).recordAll(25, 4, 1, 10, 0, 0).recordAll(26, 5, 5, 21, 0, 0);
        r.recordAll(27, 1, 7, 24, 1, 0);
        r.showAll(0, 1, 2, 5, 6, NONE, NONE, 35, NONE, NONE, NONE);
        r.showAll(5, 1, 3, 1, 7, 2, NONE, 2, 20, NONE, NONE);
        r.showAll(6, 1, 2, 3, 4, NONE, NONE, 37, NONE, NONE, NONE);
        r.showAll(1, 0, 2, 0, 1, NONE, NONE, 0, 10, NONE, NONE);
        r.showAll(7, 0, 3, 2, 3, 10, NONE, 20, 30, 100, NONE);
        r.get(0, 35, 350).get(0, 34, ELEMENT).get(0, 2, 20).get(0, 10, 100).get(0, 20, 200);

        Run again = Trees.rootAndLeafFull(run("4 put to a key that is there"));
        again.put(0, 10, 1, 0).put(0, 39, 2, 0).count(1, 22).count(0, 5);
    }

    private static void putToTheSeparator() {
        Run r = Trees.rootAndLeafFull(run("4 put to the key at which the root is split"));
        r.remove(0, 35, 350).put(0, 35, 351, 1).showAll(0, 1, 2, 5, 6, NONE, NONE, 35);
        r.showAll(3, 0, 2, 35, 36, NONE, NONE, 351, 360).showAll(2, 0, 2, 20, 30, NONE).get(0, 35, 351);

        Run below = Trees.nineKeys(run("4 put to the key at which a branch is split"));
        below.put(0, 9, 90, 1).put(0, 10, 100, 1).putAll(0, 11).put(0, 12, 120, 1);
        below.showAll(6, 1, 4, 3, 4, 7, 8, 6, 8, 10, NONE).remove(0, 8, 80).put(0, 8, 81, 1);
        below.showAll(0, 1, 3, 5, 6, 9, NONE, 4, 8, NONE, NONE).showAll(6, 1, 2, 3, 4, NONE, NONE, 6, NONE);
        below.showAll(9, 1, 2, 7, 8, NONE, NONE, 10, NONE).showAll(7, 0, 2, 8, 9, NONE, NONE, 81, 90).get(0, 8, 81);
    }

    /** A backup fixes one page alone, so that the order of those that leave can be seen. */
    private static void splitsFixInTheirOrder() {
        Run root = Trees.nineKeys(run("4 the order of fixing when the root is split"));
        root.put(0, 9, 90, 1).page(1, 0, 0);
        root.backup(1, 1).page(2, 0, 0).page(3, 0, 1);
        root.backup(2, 1).page(3, 0, 0).page(5, 0, 1);
        root.backup(3, 1).page(5, 0, 0).page(0, 0, 1).page(4, 0, 1);
        root.backup(5, 1).page(0, 0, 0).page(6, 0, 1);
        root.backup(0, 1).page(6, 0, 0).page(4, 0, 1);

        Run below = Trees.nineKeys(run("4 the order of fixing when a leaf is split"));
        below.put(0, 9, 90, 1).put(0, 10, 100, 1).page(2, 0, 0);
        below.backup(1, 1).page(3, 0, 0).page(5, 0, 1);
        below.backup(2, 1).page(5, 0, 0).page(0, 0, 1);
        below.backup(3, 1).page(0, 0, 0).page(4, 0, 1).page(6, 0, 1);
        below.backup(5, 1).page(4, 0, 0).page(6, 0, 1);
        below.backup(0, 1).page(6, 0, 0).page(7, 0, 1);
    }

    private static void putWrongInputs() {
        Run r = run("4 put, wrong inputs");
        r.put(0, 0, 1, STATE).put(0, 40, 1, ARGUMENT).put(0, -1, 1, ARGUMENT).put(4, 0, 1, ARGUMENT).put(-1, 0, 1, ARGUMENT);
        r.begin(0, 1).begin(1, 2).put(0, 40, 1, ARGUMENT).get(0, 3, ELEMENT).get(1, 3, ELEMENT);
        r.put(0, 3, 1, STATE).lock(0, 3, 1).lock(1, 3, 1).count(1, 0);
        r.commit(1, 1).put(0, 3, 1, 0).lock(0, 3, 2).begin(1, 3);
        r.put(1, 3, 2, STATE).lock(1, 3, 0).get(0, 3, 1).count(1, 2);
        r.abort(0, 1).put(1, 3, 2, 0).lock(1, 3, 2).get(1, 3, 2);
    }

    private static void remove() {
        Run r = run("5 remove");
        r.remove(0, 0, STATE).remove(0, 40, ARGUMENT).remove(0, -1, ARGUMENT).remove(4, 0, ARGUMENT).remove(-1, 40, ARGUMENT);
        r.begin(0, 1).begin(1, 2).remove(0, 8, ELEMENT).lock(0, 8, 2).count(1, 0).count(3, 1).page(0, 0, 1);
        r.putAll(0, 8, 2, 5).remove(0, 5, 50).showAll(0, 0, 2, 2, 8, NONE, NONE, 20, 80, NONE, NONE);
        r.recordAll(4, 2, 0, 3, 1, 0).remove(0, 5, ELEMENT).count(1, 4);
        r.remove(1, 5, STATE).lock(1, 5, 0).remove(0, 2, 20).remove(0, 8, 80).show(0, 1, 0).commit(0, 7);
        r.get(1, 2, ELEMENT).begin(0, 3).remove(0, 2, STATE).lock(0, 2, 0).remove(1, 2, ELEMENT).lock(1, 2, 2);

        Run tree = run("5 remove leaves the pages");
        tree.begin(0, 1).putAll(0, 0, 1, 2, 3).put(0, 4, -1, 1);
        tree.remove(0, 0, 0).remove(0, 1, 10).remove(0, 4, -1).count(0, 3);
        tree.showAll(0, 1, 2, 1, 2, NONE, NONE, 2).showAll(1, 0, 0, NONE).showAll(2, 0, 2, 2, 3, NONE);

        Run loser = run("5 remove that meets a loser");
        loser.begin(0, 1).put(0, 1, 10, 0).flush(0, 1).crash(1).begin(3, 2).remove(3, 1, ELEMENT);
        loser.lock(3, 1, 2).count(7, 0).recordAll(2, 2, 0, 1, 1, 1).record(3, 0, 7);
    }

    private static void commit() {
        Run r = run("6 commit");
        r.commit(0, STATE).commit(4, ARGUMENT).commit(-1, ARGUMENT);
        r.begin(0, 1).begin(1, 2).put(0, 1, 10, 0).put(1, 2, 20, 0).count(2, 0);
        r.commit(0, 3).count(2, 3).recordAll(3, 6, NONE, NONE, 1, 0).lock(0, 1, NONE).commit(0, STATE);
        r.count(4, 0).page(0, 1, 0);
        r.get(1, 1, 10).begin(0, 3).commit(0, 4).recordAll(4, 6, NONE, NONE, 3, 0).count(2, 4);
        r.lock(1, 2, 2).crash(1).begin(0, 4).get(0, 1, 10).get(0, 2, ELEMENT);
    }

    private static void abort() {
        Run r = run("7 abort");
        r.abort(0, STATE).abort(4, ARGUMENT).abort(-1, ARGUMENT).count(1, 0);
        r.begin(0, 1).putAll(0, 1, 2, 3, 4).commit(0, 5);
        r.begin(1, 2).begin(0, 3);
        r.put(1, 2, 21, 0).remove(1, 1, 10).put(1, 1, 11, 0).put(1, 2, 22, 0).remove(1, 4, 40);
        r.put(0, 3, 31, 0).get(1, 9, ELEMENT);
        r.abort(1, 5).showAll(0, 0, 4, 1, 2, 3, 4, 10, 20, 31, 40);
        r.recordAll(12, 1, 0, 11, 2, 10).recordAll(13, 1, 0, 12, 2, 9).recordAll(14, 2, 0, 13, 2, 8);
        r.recordAll(15, 1, 0, 14, 2, 7).recordAll(16, 1, 0, 15, 2, 6).recordAll(17, 7, NONE, NONE, 2, 0);
        r.count(1, 17).count(2, 5).lock(1, 2, NONE).lock(0, 3, 2).abort(1, STATE);
        r.get(0, 2, 20).begin(1, 4).abort(1, 0).record(18, 0, 7).record(18, 3, 4);
        r.abort(0, 1).show(0, 8, 30).record(19, 4, 11).count(1, 20);
    }

    private static void abortThatSplits() {
        Run r = run("7 abort that splits");
        r.begin(0, 1).putAll(0, 1, 3, 5, 7).commit(0, 5);
        r.begin(0, 2).begin(1, 3).remove(0, 3, 30).put(1, 2, 20, 0).count(0, 1);
        r.abort(0, 1).count(0, 3).record(8, 0, 3).record(10, 0, 3).recordAll(11, 1, 1, 8, 2, 6).record(12, 0, 7);
        r.showAll(1, 0, 3, 1, 2, 3, NONE, 10, 20, 30).showAll(2, 0, 2, 5, 7);
        r.abort(1, 1).count(0, 3).showAll(1, 0, 2, 1, 3);
    }

    private static void settle() {
        Run r = run("8 settle");
        r.begin(2, 1).begin(0, 2).begin(1, 3).begin(3, 4);
        r.put(1, 3, 1, 0).put(0, 2, 1, 0).put(2, 1, 1, 0).put(0, 2, 2, 0).commit(3, 5);
        r.settle(0).count(1, 5).crash(3).count(7, 3);
        r.begin(0, 5).put(0, 30, 1, 0).settle(3).count(7, 0).settle(0);
        r.recordAll(7, 2, 0, 6, 1, 3).recordAll(8, 7, NONE, NONE, 1, 0);
        r.recordAll(9, 1, 0, 7, 2, 4).recordAll(10, 2, 0, 9, 2, 2).recordAll(11, 7, NONE, NONE, 2, 0);
        r.recordAll(12, 2, 0, 10, 3, 1).recordAll(13, 7, NONE, NONE, 3, 0);
        r.count(1, 13).lock(0, 30, 2).showAll(0, 0, 1, 30);
    }

    private static void settleGoesOnWhereACrashStopped() {
        Run r = run("8 settle after a roll-back that a crash cut off");
        r.begin(0, 1).put(0, 1, 10, 0).put(0, 2, 20, 0).put(0, 1, 11, 0).flush(0, 1).crash(1);
        r.settle(1).count(1, 7).crash(1).count(1, 3).settle(1).flush(0, 1).count(2, 6).crash(1);
        r.count(1, 6).settle(1).count(1, 7).record(7, 0, 7).show(0, 1, 0).begin(0, 2).commit(0, 8).crash(0);

        Run half = run("8 settle after half a roll-back");
        half.begin(0, 1).putAll(0, 0, 1, 2, 3).put(0, 4, 40, 1).flush(0, 1).flush(2, 1).count(2, 8);
        half.crash(1).settle(1).count(1, 14).recordAll(9, 2, 2, 8, 1, 8).flush(2, 1).count(2, 11);
        half.crash(1).showAll(1, 0, 2, 0, 1).show(2, 1, 0).settle(1).count(1, 14);
        half.recordAll(12, 2, 1, 5, 1, 2).recordAll(13, 2, 1, 12, 1, 1).recordAll(14, 7, NONE, NONE, 1, 0);
    }

    private static void flush() {
        Run r = run("9 flush");
        r.flush(0, 0).flush(1, 0).flush(-1, 0).flush(Integer.MAX_VALUE, 0).flush(Integer.MIN_VALUE, 0);
        r.begin(0, 1).get(0, 1, ELEMENT).flush(0, 0).put(0, 1, 10, 0).put(0, 2, 20, 0);
        r.flush(0, 1).page(0, 1, 2).count(2, 2).count(4, 1).flush(0, 0).count(4, 1);
        r.put(0, 3, 30, 0).flush(0, 1).page(0, 1, 3).count(4, 2).count(3, 1);
        r.damage(0, 1).flush(0, 0).page(0, 3, 1).put(0, 4, 40, 0).flush(0, 1).page(0, 3, 0);
        r.crash(1).flush(0, 0).page(0, 1, 4);
    }

    private static void flushForcesWholeSplits() {
        Run r = run("9 flush of one page of a split");
        r.begin(0, 1).putAll(0, 0, 1, 2, 3).put(0, 4, 40, 1).count(1, 8);
        r.flush(1, 1).count(2, 7).page(1, 1, 5).flush(2, 1).count(2, 8).page(2, 1, 8);
        r.flush(0, 1).count(2, 8).page(0, 1, 7).count(4, 3);
        r.put(0, 5, 50, 0).put(0, 6, 60, 1).count(1, 13).flush(3, 1).count(2, 13);

        Run cut = run("9 flush of the page that was cut");
        cut.begin(0, 1).putAll(0, 0, 1, 2, 3).put(0, 4, 40, 1).putAll(0, 5).put(0, 6, 60, 1);
        cut.flush(2, 1).page(2, 1, 11).count(2, 12).crash(1).count(1, 12).showAll(3, 0, 2, 4, 5);
    }

    private static void poolLetsTheLeastLatelyFixedLeave() {
        Run r = Trees.nineKeys(run("9 the pool"));
        r.countAll(5, 18, 0, 1, 0, 0, 0, 0, 1);
        r.put(0, 9, 90, 1).countAll(7, 22, 7, 1, 1, 0, 0, 0, 1);
        r.page(1, 0, 0).page(1, 1, 5).page(2, 0, 1).page(5, 0, 1).page(6, 0, 1);
        r.get(0, 0, 0).countAll(7, 22, 12, 2, 2, 0, 0, 0, 1).page(1, 0, 1).page(2, 0, 0).page(2, 1, 11);
        r.get(0, 4, 40).page(3, 0, 1).count(4, 2).count(3, 2);
        r.get(0, 2, 20).page(2, 0, 1).page(4, 0, 0).page(4, 1, 22).count(2, 22).count(4, 3).count(3, 3);
        r.get(0, 9, 90).page(4, 0, 1).page(1, 0, 0).count(4, 3).count(3, 4).count(5, 0);
    }

    private static void flushFixesNothing() {
        Run r = Trees.nineKeys(run("9 flush fixes nothing"));
        r.flush(1, 1).put(0, 9, 90, 1).page(1, 0, 0).count(4, 1);

        Run fixed = Trees.nineKeys(run("10 backup fixes the page"));
        fixed.backup(1, 1).put(0, 9, 90, 1).page(1, 0, 1).page(2, 0, 0).count(4, 1);
    }

    private static void backup() {
        Run r = run("10 backup");
        r.backup(1, 0).backup(-1, 0).backup(Integer.MAX_VALUE, 0).count(3, 0);
        r.backup(0, 1).page(0, 2, 0).page(0, 0, 1).count(3, 1);
        r.begin(0, 1).putAll(0, 0, 1, 2, 3).page(0, 2, 0).backup(0, 1).page(0, 2, 4).count(2, 4);
        r.page(0, 1, 0).count(4, 0).put(0, 4, 40, 1).page(1, 2, NONE).backup(1, 1).page(1, 2, 5).count(2, 7);
        r.page(0, 2, 4).crash(1).page(0, 2, 4).page(1, 2, 5).page(2, 2, NONE);
        r.damage(0, 1).begin(0, 2).get(0, 30, ELEMENT).count(6, 1).count(5, 2).count(3, 3);
    }

    private static void damage() {
        Run r = run("11 damage");
        r.damage(1, 0).damage(-1, 0).damage(Integer.MIN_VALUE, 0).damage(0, 1).damage(0, 0).page(0, 3, 1).page(0, 1, 0);
        r.begin(0, 1).get(0, 0, ELEMENT).count(6, 1).count(5, 0).count(3, 1).page(0, 3, 1);
        r.putAll(0, 0, 1, 2).count(6, 1).flush(0, 1).page(0, 3, 0).damage(0, 1).page(0, 1, 3);
        r.get(0, 1, 10).count(6, 1).commit(0, 4).crash(0).page(0, 3, 1);
        r.begin(0, 2).get(0, 2, 20).count(6, 2).count(5, 3).flush(0, 0).page(0, 3, 1);
        r.backup(0, 1).page(0, 2, 3).put(0, 1, 11, 0).commit(0, 6).crash(0);
        r.begin(0, 3).get(0, 1, 11).count(6, 3).count(5, 4).flush(0, 1).page(0, 3, 0).page(0, 1, 5);
        r.crash(0).begin(0, 4).get(0, 1, 11).count(6, 3).count(5, 4).count(3, 4);
    }

    private static void damagedImageThatIsNotWritten() {
        Run r = Trees.nineKeys(run("11 a damaged image that is not to be written"));
        r.put(0, 9, 90, 1).get(0, 0, 0).damage(2, 1).get(0, 2, 20).count(6, 1).count(5, 4).page(2, 3, 1);
        r.get(0, 4, 40).get(0, 9, 90).get(0, 0, 0).get(0, 4, 40).page(2, 0, 0).page(2, 3, 1);
        r.get(0, 3, 30).count(6, 2).count(5, 8).page(2, 3, 1).put(0, 2, 21, 0).flush(2, 1).page(2, 3, 0);
    }

    private static void crash() {
        Run r = run("12 crash");
        r.begin(0, 1).put(0, 1, 10, 0).begin(1, 2).put(1, 2, 20, 0).begin(2, 3).get(2, 3, ELEMENT);
        r.crash(0).count(1, 0).show(0, 1, 0).page(0, 0, 0).page(0, 4, 0).page(0, 5, 0).lock(0, 1, NONE).commit(0, STATE);
        r.begin(0, 4).put(0, 1, 11, 0).begin(1, 5).put(1, 2, 21, 0).begin(2, 6).commit(2, 3).put(1, 3, 31, 0);
        r.crash(2).count(7, 2).count(1, 3).count(2, 3).record(4, 0, NONE).count(8, 6).count(4, 0);
        r.begin(3, 7).put(3, 3, 32, 0).count(7, 2).put(3, 2, 22, 0).count(7, 1).commit(3, 8);
        r.recordAll(5, 2, 0, 4, 5, 2).recordAll(6, 7, NONE, NONE, 5, 0);
        r.crash(1).count(7, 1).begin(0, 8).get(0, 1, ELEMENT).get(0, 2, 22).get(0, 3, 32).count(7, 0);

        Run ended = run("12 crash after an abort that is not forced");
        ended.begin(0, 1).put(0, 1, 10, 0).flush(0, 1).abort(0, 1).crash(1).show(0, 1, 1);
        ended.begin(0, 2).begin(1, 3).commit(1, 2).put(0, 1, 5, 0).crash(1).settle(1).commit(0, STATE);
        ended.begin(0, 4).commit(0, 5).crash(0).count(7, 0).show(0, 1, 0);
    }

    private static void crashUnmakesPages() {
        Run r = Trees.nineKeys(run("12 crash that unmakes pages"));
        r.put(0, 9, 90, 1).get(0, 0, 0).damage(3, 1).damage(4, 1).damage(6, 1).count(0, 7).count(2, 12);
        r.crash(1).count(0, 4).count(1, 12).page(4, 3, NONE).page(3, 3, 1).show(4, 0, NONE).damage(4, 0);
        r.showAll(0, 1, 3, 1, 2, 3, NONE, 2, 4, NONE, NONE).showAll(3, 0, 2, 4, 5, NONE, NONE, 40, 50);
        r.page(0, 4, 12).page(0, 5, 6).page(0, 1, 0).page(1, 1, 5).page(3, 1, 0).page(3, 4, 10).count(3, 2);
        r.settle(1).count(1, 19).count(3, 6).count(5, 7).count(6, 1).count(0, 4);
        r.begin(0, 2).putAll(0, 4, 5, 6, 7).put(0, 8, 80, 1).count(0, 5).page(4, 3, 0).page(4, 1, 0).page(3, 3, 1);
    }

    private static void crashUnsplitsTheRoot() {
        Run r = run("12 crash that unsplits the root");
        r.begin(0, 1).putAll(0, 0, 1, 2, 3).commit(0, 5).begin(0, 2).put(0, 4, 40, 1).count(0, 3);
        r.crash(0).count(0, 1).showAll(0, 0, 4, 0, 1, 2, 3, 0, 10, 20, 30).page(0, 4, 4).page(0, 5, 4);
        r.begin(0, 3).get(0, 3, 30).count(5, 4).put(0, 4, 41, 1).showAll(2, 0, 3, 2, 3, 4);
    }

    private static void numbersThatACrashFreed() {
        Run split = run("12 a number that a record of a split had");
        split.begin(0, 1).putAll(0, 0, 1, 2, 3).put(0, 4, 40, 1).crash(0).count(1, 0);
        split.begin(0, 2).putAll(0, 9).flush(0, 1).count(2, 1).putAll(0, 8, 7, 6).commit(0, 5).count(2, 5);
        split.begin(0, 3).put(0, 6, 61, 0).flush(0, 1).count(2, 6);

        Run undone = run("12 a number that an undone record had");
        undone.begin(0, 1).put(0, 1, 10, 0).abort(0, 1).crash(0);
        undone.begin(0, 2).put(0, 1, 11, 0).recordAll(1, 1, 0, 0, 2, 0).abort(0, 1).show(0, 1, 0);

        Run undoing = run("12 a number that an undoing record had");
        undoing.begin(0, 1).put(0, 1, 10, 0).flush(0, 1).abort(0, 1).recordAll(2, 2, 0, 1, 1, 1).crash(1);
        undoing.begin(0, 2).commit(0, 2).recordAll(2, 6, NONE, NONE, 2, 0).settle(1).recordAll(3, 2, 0, 1, 1, 1);
        undoing.show(0, 1, 0);
    }

    private static void crashKeepsWhatIsStored() {
        Run r = run("12 crash keeps images and backups");
        r.damage(0, 1).crash(0).page(0, 3, 1).backup(0, 1).crash(0).page(0, 2, 0).page(0, 3, 1);
        r.begin(0, 1).put(0, 1, 10, 0).backup(0, 1).put(0, 1, 11, 0).crash(1);
        r.count(1, 1).page(0, 2, 1).page(0, 1, 0).page(0, 3, 1).show(0, 6, 10).count(6, 2);
        r.settle(1).count(6, 3).count(5, 0).count(3, 3);
    }

    private static void losersOfSeveralCrashes() {
        Run r = run("12 losers of several crashes");
        r.begin(0, 1).put(0, 1, 10, 0).flush(0, 1).crash(1);
        r.begin(0, 2).put(0, 2, 20, 0).flush(0, 1).crash(2);
        r.begin(0, 3).put(0, 3, 30, 0).flush(0, 1).crash(3).count(7, 3).count(8, 3);
        r.begin(0, 4).get(0, 2, ELEMENT).count(7, 2).record(4, 3, 2).settle(2);
        r.record(6, 3, 1).record(8, 3, 3).show(0, 1, 0);
    }

    private static void page() {
        Run r = run("13 page");
        r.begin(0, 1).putAll(0, 0, 1, 2, 3).put(0, 4, 40, 1).flush(2, 1).backup(1, 1).damage(1, 1);
        r.page(0, 0, 1).page(0, 1, 0).page(0, 2, NONE).page(0, 3, 0).page(0, 4, 7).page(0, 5, 5);
        r.page(1, 0, 1).page(1, 1, 0).page(1, 2, 5).page(1, 3, 1).page(1, 4, 5).page(1, 5, 1);
        r.page(2, 0, 1).page(2, 1, 8).page(2, 2, NONE).page(2, 3, 0).page(2, 4, 8).page(2, 5, 2);
        r.page(0, 6, NONE).page(0, -1, NONE).page(3, 0, NONE).page(-1, 0, NONE);
        r.page(Integer.MAX_VALUE, 0, NONE).page(Integer.MIN_VALUE, 0, NONE).page(0, Integer.MAX_VALUE, NONE);
        r.crash(1).page(0, 0, 0).page(1, 0, 0).page(2, 0, 0).page(2, 4, 8);
    }

    private static void show() {
        Run r = run("14 show");
        r.begin(0, 1).put(0, 9, -1, 0).put(0, 2, 0, 0);
        r.showAll(0, 0, 2, 2, 9, NONE, NONE, 0, -1, NONE, NONE);
        r.show(0, 10, NONE).show(0, -1, NONE).show(1, 0, NONE).show(-1, 0, NONE);
        r.show(0, Integer.MAX_VALUE, NONE).show(0, Integer.MIN_VALUE, NONE).show(Integer.MAX_VALUE, 1, NONE);
        r.commit(0, 3).crash(0).damage(0, 1).showAll(0, 0, 2, 2, 9, NONE, NONE, 0, -1, NONE, NONE);
        r.page(0, 0, 0).count(3, 1).count(5, 0).count(6, 0);

        Run branch = Trees.rootAndLeafFull(run("14 show of a full branch"));
        branch.showAll(0, 1, 4, 1, 2, 3, 4, 20, 35, 37, NONE);
        branch.showAll(1, 0, 4, 0, 1, 2, 10, 0, 10, 20, 100);
    }

    private static void count() {
        Run r = Trees.nineKeys(run("15 count"));
        r.put(0, 9, 90, 1).get(0, 0, 0).crash(1).countAll(4, 12, 12, 2, 2, 0, 0, 1, 1);
        r.damage(2, 1).begin(1, 2).get(1, 30, ELEMENT).countAll(4, 12, 12, 4, 2, 7, 0, 1, 2);
        r.get(1, 3, ELEMENT).count(7, 0).count(6, 1).count(5, 11);
        r.count(9, NONE).count(-1, NONE).count(Integer.MAX_VALUE, NONE).count(Integer.MIN_VALUE, NONE);
    }

    private static void record() {
        Run r = run("16 record");
        r.begin(0, 1).begin(1, 2).putAll(0, 0, 1, 2, 3).remove(0, 3, 30).put(0, 3, 31, 0).put(1, 4, 40, 1);
        r.putAll(1, 5).put(1, 6, 60, 1).commit(0, 16).abort(1, 3);
        r.recordAll(1, 1, 0, 0, 1, 0).recordAll(5, 2, 0, 4, 1, 0).recordAll(6, 1, 0, 5, 1, 0);
        r.recordAll(7, 3, 1, 0, 0, 0).recordAll(8, 3, 2, 0, 0, 0).recordAll(9, 3, 0, 6, 0, 0);
        r.recordAll(10, 1, 2, 8, 2, 0).recordAll(11, 1, 2, 10, 2, 0);
        r.recordAll(12, 3, 3, 0, 0, 0).recordAll(13, 4, 2, 11, 0, 0).recordAll(14, 5, 0, 9, 0, 0);
        r.recordAll(15, 1, 3, 12, 2, 0).recordAll(16, 6, NONE, NONE, 1, 0);
        r.recordAll(17, 2, 3, 15, 2, 15).recordAll(18, 2, 3, 17, 2, 11).recordAll(19, 2, 3, 18, 2, 10);
        r.recordAll(20, 7, NONE, NONE, 2, 0).record(21, 0, NONE).record(0, 0, NONE).record(-1, 0, NONE);
        r.record(1, 5, NONE).record(1, -1, NONE).record(Integer.MAX_VALUE, 0, NONE).record(Integer.MIN_VALUE, 0, NONE);
        r.crash(1).record(17, 0, NONE).recordAll(16, 6, NONE, NONE, 1, 0);
    }

    private static void lock() {
        Run r = run("17 lock");
        r.lock(0, 0, NONE).begin(0, 1).lock(0, 0, 0).lock(0, 39, 0).lock(1, 0, NONE);
        r.lock(0, 40, NONE).lock(0, -1, NONE).lock(4, 0, NONE).lock(-1, 0, NONE);
        r.lock(Integer.MAX_VALUE, 0, NONE).lock(0, Integer.MIN_VALUE, NONE);
        r.get(0, 39, ELEMENT).lock(0, 39, 1).put(0, 39, 1, 0).lock(0, 39, 2).get(0, 39, 1).lock(0, 39, 2);
        r.begin(1, 2).lock(1, 39, 0).commit(0, 2).lock(0, 39, NONE).begin(0, 3).lock(0, 39, 0);
        r.remove(1, 39, 1).lock(1, 39, 2).abort(1, 1).lock(1, 39, NONE).begin(1, 4).lock(1, 39, 0);
        r.put(1, 5, 5, 0).flush(0, 1).crash(1).lock(1, 5, NONE).begin(1, 5).lock(1, 5, 0);
    }
}

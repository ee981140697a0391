/** What the document's terms say of transactions, rolling back and crashes: a test for each sentence, named by it. */
public final class CrashTermsTest {
    private static final int NONE = PageKeeper.NONE;
    private static final String ARGUMENT = Checks.ARGUMENT;
    private static final String STATE = Checks.STATE;
    private static final String ELEMENT = Checks.ELEMENT;

    private static final int RECORDS = 1;
    private static final int LOSERS = 7;

    private static final Checks CHECKS = new Checks();

    private static Run run(String name) {
        return new Run(CHECKS, name);
    }

    public static void main(String[] args) {
        places();
        serials();
        locksUntilItEnds();
        rollsBackFromTheLatest();
        rollsBackWhatUndoesNothing();
        rollsBackWhatWasNotUndone();
        rollsBackOnlyItsOwn();
        undoesAsPuttingSays();
        undoesWhereTheKeyIsNow();
        endIsWritten();
        recordsAboveAreGone();
        poolIsEmpty();
        placesAreEmpty();
        pagesAreNotMade();
        rootIsMade();
        imagesAsAtFirst();
        losersHaveRecords();
        losersHaveNoCommit();
        losersHaveNoEnd();
        losersOwnTheirKeys();
        otherLocksThereAreNone();
        loserIsRolledBackFirst();
        loserIsNotMet();
        splitsOfALoserAreNotCounted();
        stateExceptionRollsNoLoserBack();
        elementExceptionKeepsLockAndFixing();
        CHECKS.close("CrashTermsTest");
    }

    private static void places() {
        Run r = run("four PLACES 0 .. 3");
        r.begin(-1, ARGUMENT).begin(4, ARGUMENT).begin(0, 1).begin(1, 2).begin(2, 3).begin(3, 4).begin(4, ARGUMENT);
        for (int t = 0; t < 4; t++) {
            r.put(t, 10 * t, t, 0);
        }
        r.commit(3, 5).commit(0, 6).commit(4, ARGUMENT).commit(-1, ARGUMENT).abort(4, ARGUMENT).abort(-1, ARGUMENT);
        r.get(1, 0, 0).get(2, 30, 3).lock(0, 0, NONE).lock(3, 30, NONE).lock(1, 0, 1).lock(4, 0, NONE).lock(-1, 0, NONE);
    }

    private static void serials() {
        Run r = run("a SERIAL number, 1, 2, .., as it begins");
        r.count(8, 0).begin(2, 1).count(8, 1).begin(2, STATE).begin(4, ARGUMENT).begin(0, 2).commit(2, 1).begin(2, 3);
        r.abort(0, 0).begin(0, 4).crash(0).count(8, 4).begin(0, 5).put(0, 1, 1, 0).record(2, 3, 5).count(8, 5);
    }

    private static void locksUntilItEnds() {
        Run r = run("LOCKS on keys, until it ends");
        r.begin(0, 1).begin(1, 2).begin(2, 3).put(0, 1, 10, 0).get(0, 2, ELEMENT).put(0, 1, 11, 0).get(0, 1, 11);
        r.lock(0, 1, 2).lock(0, 2, 1).get(1, 1, STATE).put(1, 2, 1, STATE).commit(0, 3);
        r.get(1, 1, 11).put(1, 2, 20, 0).get(2, 2, STATE).put(2, 1, 1, STATE).abort(1, 1);
        r.get(2, 2, ELEMENT).put(2, 1, 12, 0).lock(2, 2, 1).lock(2, 1, 2).crash(0).begin(0, 4).put(0, 1, 13, 0).put(0, 2, 23, 0);
    }

    private static void rollsBackFromTheLatest() {
        Run r = run("from the latest to the first");
        r.begin(0, 1).putAll(0, 1, 2).commit(0, 3).begin(0, 2).put(0, 1, 11, 0).put(0, 2, 21, 0).put(0, 1, 12, 0);
        r.abort(0, 3).recordAll(7, 1, 0, 6, 2, 6).recordAll(8, 1, 0, 7, 2, 5).recordAll(9, 1, 0, 8, 2, 4);
        r.recordAll(10, 7, NONE, NONE, 2, 0).showAll(0, 0, 2, 1, 2, NONE, NONE, 10, 20);
    }

    /** Three records of a loser, and its roll-back forced but for END. */
    private static Run rolledBackButForEnd(String name) {
        Run r = run(name).begin(0, 1).putAll(0, 1, 2).put(0, 1, 11, 0).flush(0, 1).crash(1).settle(1);
        return r.count(RECORDS, 7).flush(0, 1).count(2, 6).crash(1).count(RECORDS, 6).show(0, 1, 0);
    }

    private static void rollsBackWhatUndoesNothing() {
        Run r = rolledBackButForEnd("its records SET and OUT that undo nothing: an undoing one is not undone");
        r.settle(1).count(RECORDS, 7).recordAll(7, 7, NONE, NONE, 1, 0).show(0, 1, 0).count(LOSERS, 0);
    }

    private static void rollsBackWhatWasNotUndone() {
        Run r = Trees.fiveKeys(run("its records SET and OUT that were not undone"));
        r.flush(0, 1).flush(2, 1).count(2, 8).crash(1).settle(1).count(RECORDS, 14).flush(2, 1).count(2, 11);
        r.crash(1).recordAll(11, 2, 2, 10, 1, 3).settle(1).recordAll(12, 2, 1, 5, 1, 2).recordAll(13, 2, 1, 12, 1, 1);
        r.recordAll(14, 7, NONE, NONE, 1, 0).count(RECORDS, 14).show(1, 1, 0).show(2, 1, 0);
    }

    private static void rollsBackOnlyItsOwn() {
        Run r = run("ROLLING BACK a transaction: of its records");
        r.begin(0, 1).begin(1, 2).putAll(0, 1).putAll(1, 2).putAll(0, 3).abort(0, 2).showAll(0, 0, 1, 2, NONE).commit(1, 7);
        r.begin(0, 3).put(0, 2, 21, 0).commit(0, 9).begin(0, 4).abort(0, 0).showAll(0, 0, 1, 2, NONE, NONE, NONE, 21);
    }

    private static void undoesAsPuttingSays() {
        Run r = run("the value that was there before is put to the key (as PUTTING says)");
        r.begin(0, 1).putAll(0, 1, 3, 5, 7).commit(0, 5).begin(0, 2).begin(1, 3).remove(0, 3, 30).putAll(1, 2).count(0, 1);
        r.abort(0, 1).count(0, 3).recordAll(8, 3, 1, 0, 0, 0).recordAll(9, 3, 2, 0, 0, 0).recordAll(10, 3, 0, 7, 0, 0);
        r.recordAll(11, 1, 1, 8, 2, 6).recordAll(12, 7, NONE, NONE, 2, 0).showAll(1, 0, 3, 1, 2, 3, NONE, 10, 20, 30);

        Run gone = run("or the key is taken out, if there was none");
        gone.begin(0, 1).put(0, 4, NONE, 0).abort(0, 1).recordAll(2, 2, 0, 1, 1, 1).show(0, 1, 0);
    }

    private static void undoesWhereTheKeyIsNow() {
        Run r = run("undone where the key is now, not where the record was");
        r.begin(0, 1).begin(1, 2).putAll(0, 3).putAll(1, 1, 2).put(0, 4, 40, 0).put(1, 5, 50, 1);
        r.abort(0, 2).recordAll(9, 2, 2, 8, 1, 4).recordAll(10, 2, 2, 9, 1, 1).showAll(2, 0, 1, 5).showAll(1, 0, 2, 1, 2);
    }

    private static void endIsWritten() {
        Run r = run("then END is written");
        r.begin(3, 1).abort(3, 0).count(RECORDS, 1).recordAll(1, 7, NONE, NONE, 1, 0).count(2, 0);
        r.begin(3, 2).get(3, 1, ELEMENT).abort(3, 0).recordAll(2, 7, NONE, NONE, 2, 0);
        r.begin(3, 3).putAll(3, 1).abort(3, 1).recordAll(5, 7, NONE, NONE, 3, 0).count(RECORDS, 5);
    }

    private static void recordsAboveAreGone() {
        Run all = run("all records above the one up to which the log is forced are gone: all of them");
        all.begin(0, 1).putAll(0, 1, 2).crash(0).count(RECORDS, 0).record(1, 0, NONE).show(0, 1, 0).page(0, 5, 0).page(0, 4, 0);
        Run some = run("all records above the one up to which the log is forced are gone: one of them");
        some.begin(0, 1).putAll(0, 1, 2).flush(0, 1).putAll(0, 3).crash(1).count(RECORDS, 2).record(2, 0, 1).record(3, 0, NONE);
        some.showAll(0, 0, 2, 1, 2, NONE).page(0, 4, 2).page(0, 5, 2);
        Run none = run("all records above the one up to which the log is forced are gone: none");
        none.begin(0, 1).putAll(0, 1, 2).commit(0, 3).crash(0).count(RECORDS, 3).record(3, 0, 6).crash(0).count(RECORDS, 3);
        none.begin(0, 2).putAll(0, 3).recordAll(4, 1, 0, 2, 2, 0);
    }

    private static void poolIsEmpty() {
        Run r = Trees.tenKeys(run("the pool is empty"));
        r.commit(0, 23).crash(0);
        for (int page = 0; page < 7; page++) {
            r.page(page, 0, 0).flush(page, 0);
        }
        r.count(3, 1).count(4, 1).begin(0, 2).get(0, 9, 90).count(3, 4).count(5, 12);
    }

    private static void placesAreEmpty() {
        Run r = run("the places are empty");
        for (int t = 0; t < 4; t++) {
            r.begin(t, t + 1).put(t, t, t, 0);
        }
        r.crash(0);
        for (int t = 0; t < 4; t++) {
            r.lock(t, t, NONE).commit(t, STATE).abort(t, STATE).get(t, t, STATE).begin(t, t + 5).lock(t, t, 0);
        }
    }

    private static void pagesAreNotMade() {
        Run r = Trees.fiveKeys(run("pages that have no record any more are not made"));
        r.crash(0).count(0, 1);
        for (int page = 1; page <= 2; page++) {
            r.page(page, 0, NONE).page(page, 1, NONE).page(page, 5, NONE).show(page, 0, NONE);
            r.flush(page, 0).backup(page, 0).damage(page, 0);
        }
        Run some = Trees.fiveKeys(run("pages that have a record still are made"));
        some.flush(1, 1).putAll(0, 5).put(0, 6, 60, 1).crash(1).count(0, 3).count(RECORDS, 7);
        some.showAll(1, 0, 2, 0, 1).showAll(2, 0, 2, 2, 3, NONE).show(3, 0, NONE).page(3, 3, NONE);
    }

    private static void rootIsMade() {
        Run r = Trees.fiveKeys(run("(but the root)"));
        r.crash(0).count(0, 1).showAll(0, 0, 0, NONE, NONE, NONE, NONE, NONE, NONE, NONE, NONE);
        r.page(0, 0, 0).page(0, 1, 0).page(0, 2, NONE).page(0, 3, 0).page(0, 4, 0).page(0, 5, 0).damage(0, 1).backup(0, 1);
    }

    private static void imagesAsAtFirst() {
        Run r = Trees.fiveKeys(run("and their images are as at first"));
        r.damage(0, 1).damage(1, 1).damage(2, 1).crash(0).page(0, 3, 1);
        r.begin(0, 2).putAll(0, 0, 1, 2, 3).put(0, 4, 40, 1).page(1, 3, 0).page(2, 3, 0).page(1, 1, 0).page(1, 2, NONE);
        r.page(0, 3, 1).commit(0, 9).crash(0).begin(0, 3).get(0, 4, 40).count(6, 2).page(2, 3, 0);

        Run kept = Trees.fiveKeys(run("and the images of the others are as they were"));
        kept.flush(1, 1).damage(1, 1).damage(2, 1).backup(1, 1).putAll(0, 5).put(0, 6, 60, 1).damage(3, 1).crash(1);
        kept.page(1, 3, 1).page(2, 3, 1).page(1, 1, 5).page(1, 2, 5).page(2, 1, 0).count(0, 3).page(3, 3, NONE);
    }

    private static void losersHaveRecords() {
        Run r = run("A transaction that was begun, has records in the log that is left");
        r.begin(0, 1).begin(1, 2).begin(2, 3).begin(3, 4).putAll(0, 1).get(1, 2, ELEMENT).commit(3, 2).putAll(2, 3);
        r.crash(1).count(LOSERS, 1).settle(1).record(4, 3, 1).count(LOSERS, 0);

        Run none = run("A transaction that has no records in the log that is left");
        none.begin(0, 1).putAll(0, 1, 2).crash(0).count(LOSERS, 0).settle(0).begin(0, 2).get(0, 1, ELEMENT).count(RECORDS, 0);
    }

    private static void losersHaveNoCommit() {
        Run r = run("but neither COMMIT");
        r.begin(0, 1).begin(1, 2).putAll(0, 1).putAll(1, 2).commit(0, 3).crash(1).begin(0, 3).get(0, 1, 10).count(LOSERS, 1);
        r.get(0, 2, ELEMENT).count(LOSERS, 0).record(4, 3, 2);
    }

    private static void losersHaveNoEnd() {
        Run forced = run("nor END there");
        forced.begin(0, 1).begin(1, 2).putAll(0, 1).abort(0, 1).commit(1, 4).crash(0).count(LOSERS, 0).count(RECORDS, 4);
        Run lost = run("nor END there: an END that is gone");
        lost.begin(0, 1).putAll(0, 1).flush(0, 1).abort(0, 1).count(RECORDS, 3).crash(1).count(RECORDS, 1).count(LOSERS, 1);
        Run undone = rolledBackButForEnd("nor END there: all is undone, END alone is gone");
        undone.count(LOSERS, 1).begin(0, 2).get(0, 2, ELEMENT).count(LOSERS, 0).recordAll(7, 7, NONE, NONE, 1, 0);
        Run settled = rolledBackButForEnd("nor END there: an END that a later crash leaves");
        settled.settle(1).begin(0, 2).commit(0, 8).crash(0).count(LOSERS, 0).count(RECORDS, 8);
    }

    private static void losersOwnTheirKeys() {
        Run r = run("an own lock on each key that one of its records there has");
        r.begin(0, 1).putAll(0, 1, 2).remove(0, 2, 20).get(0, 3, ELEMENT).flush(0, 1).putAll(0, 4).crash(1);
        r.begin(0, 2).get(0, 3, ELEMENT).put(0, 3, 30, 0).put(0, 4, 40, 0).count(LOSERS, 1).count(RECORDS, 5);
        r.get(0, 2, ELEMENT).count(LOSERS, 0).record(6, 4, 3).record(7, 4, 2).record(8, 4, 1).record(9, 0, 7);

        Run first = run("an own lock on the key of its first record");
        first.begin(0, 1).putAll(0, 1, 2, 3).flush(0, 1).crash(1).begin(1, 2).get(1, 1, ELEMENT).count(LOSERS, 0);
        Run edges = run("an own lock on the least and the greatest key");
        edges.begin(0, 1).begin(1, 2).putAll(0, 0).putAll(1, 39).flush(0, 1).crash(2).begin(0, 3);
        edges.get(0, 1, ELEMENT).get(0, 38, ELEMENT).count(LOSERS, 2).get(0, 39, ELEMENT).count(LOSERS, 1).record(4, 3, 2);
        edges.get(0, 0, ELEMENT).count(LOSERS, 0).record(6, 3, 1);
    }

    private static void otherLocksThereAreNone() {
        Run r = run("other locks there are none");
        r.begin(0, 1).begin(1, 2).begin(2, 3).putAll(0, 1).commit(2, 2).get(1, 5, ELEMENT).put(0, 6, 60, 0).crash(1);
        r.begin(1, 4).begin(0, 5).lock(0, 1, 0).lock(0, 6, 0).lock(1, 5, 0).put(0, 5, 50, 0).put(1, 6, 61, 0).count(LOSERS, 1);
    }

    /** A loser with key 1, over a value that was committed. */
    private static Run oneLoser(String name) {
        Run r = run(name).begin(0, 1).putAll(0, 1, 2).commit(0, 3).begin(0, 2).put(0, 1, 11, 0).flush(0, 1);
        return r.crash(1).begin(2, 3).count(RECORDS, 4);
    }

    private static void rolledBack(Run r) {
        r.count(LOSERS, 0).recordAll(5, 1, 0, 4, 2, 4).recordAll(6, 7, NONE, NONE, 2, 0);
    }

    private static void loserIsRolledBackFirst() {
        rolledBack(oneLoser("When a lock on a key is wanted that a loser has: get").get(2, 1, 10).count(RECORDS, 6));
        rolledBack(oneLoser("When a lock on a key is wanted that a loser has: put").put(2, 1, 12, 0).recordAll(7, 1, 0, 5, 3, 0));
        rolledBack(oneLoser("When a lock on a key is wanted that a loser has: remove").remove(2, 1, 10).recordAll(7, 2, 0, 5, 3, 0));
        Run undone = oneLoser("a put over a loser's key has the value before from the roll-back");
        undone.put(2, 1, 12, 0).abort(2, 1).show(0, 6, 10);
    }

    private static void loserIsNotMet() {
        Run r = oneLoser("a loser is not rolled back as long as none of its locks is wanted");
        r.get(2, 2, 20).put(2, 2, 21, 0).remove(2, 2, 21).get(2, 3, ELEMENT).remove(2, 3, ELEMENT).backup(0, 1).flush(0, 1);
        r.lock(2, 1, 0).show(0, 6, 11).damage(0, 1).commit(2, 7).begin(2, 4).abort(2, 0).count(LOSERS, 1).crash(1).count(LOSERS, 1);
    }

    private static void splitsOfALoserAreNotCounted() {
        Run r = run("how many splits that took: those of a loser's roll-back are not of that");
        r.begin(0, 1).putAll(0, 1, 3, 5, 7).commit(0, 5).begin(0, 2).begin(1, 3).remove(0, 3, 30).putAll(1, 2).commit(1, 8);
        r.crash(1).begin(0, 4).put(0, 3, 31, 0).count(0, 3).record(9, 0, 3).record(12, 4, 6).record(13, 0, 7).recordAll(14, 1, 1, 12, 4, 0);
    }

    private static void stateExceptionRollsNoLoserBack() {
        Run r = oneLoser("no transaction is open at t: that comes before the lock is wanted");
        r.get(0, 1, STATE).put(1, 1, 1, STATE).remove(3, 1, STATE).count(LOSERS, 1).count(RECORDS, 4).page(0, 0, 0);
    }

    private static void elementExceptionKeepsLockAndFixing() {
        Run get = Trees.tenKeys(run("with NoSuchElementException the lock and the fixing stay: get"));
        get.commit(0, 23).crash(0).begin(0, 2).get(0, 20, ELEMENT).lock(0, 20, 1).page(0, 0, 1).page(6, 0, 1).page(4, 0, 1);
        get.page(5, 0, 0).count(3, 4).count(RECORDS, 23).begin(1, 3).put(1, 20, 1, STATE).get(1, 20, ELEMENT);

        Run remove = Trees.tenKeys(run("with NoSuchElementException the lock and the fixing stay: remove"));
        remove.commit(0, 23).crash(0).begin(0, 2).get(0, 21, ELEMENT).remove(0, 21, ELEMENT).remove(0, 20, ELEMENT);
        remove.lock(0, 20, 2).lock(0, 21, 2).page(0, 0, 1).page(6, 0, 1).page(4, 0, 1).count(3, 4).count(RECORDS, 23);
        remove.begin(1, 3).get(1, 20, STATE).get(1, 21, STATE).commit(0, 24).get(1, 20, ELEMENT);

        Run loser = run("with NoSuchElementException a loser's roll-back stays");
        loser.begin(0, 1).putAll(0, 1).flush(0, 1).crash(1).begin(0, 2).remove(0, 1, ELEMENT).count(LOSERS, 0).lock(0, 1, 2);
    }
}

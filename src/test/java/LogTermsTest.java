/** What the document's terms say of records and of forcing the log: a test for each sentence, named by it. */
public final class LogTermsTest {
    private static final int NONE = PageKeeper.NONE;
    private static final int LEAST = Integer.MIN_VALUE;
    private static final String ELEMENT = Checks.ELEMENT;

    private static final Checks CHECKS = new Checks();

    private static Run run(String name) {
        return new Run(CHECKS, name);
    }

    public static void main(String[] args) {
        numbers();
        set();
        out();
        beforeAValue();
        beforeNone();
        format();
        cut();
        link();
        commitAndEnd();
        lsn();
        forcedAtFirst();
        forceUpToThat();
        forceOfARootSplit();
        forceOfASplitBelow();
        forceBesideASplit();
        forceOfOneOfTwoSplits();
        forcedSoFarAlready();
        CHECKS.close("LogTermsTest");
    }

    private static void numbers() {
        Run r = run("RECORDS with the numbers 1, 2, ..");
        r.record(0, 0, NONE).record(1, 0, NONE).begin(0, 1).record(1, 0, NONE).put(0, 1, 10, 0);
        r.record(0, 0, NONE).record(1, 0, 1).record(2, 0, NONE).remove(0, 1, 10).record(2, 0, 2).record(3, 0, NONE);
        r.commit(0, 3).record(3, 0, 6).record(4, 0, NONE).count(1, 3);
    }

    private static void set() {
        Run r = run("SET: the entry of a key becomes a value (it is added if there is none)");
        r.begin(0, 1).put(0, 5, 1, 0).recordAll(1, 1, 0, 0, 1, 0).showAll(0, 0, 1, 5, NONE, NONE, NONE, 1);
        r.put(0, 5, 2, 0).recordAll(2, 1, 0, 1, 1, 0).showAll(0, 0, 1, 5, NONE, NONE, NONE, 2);
        r.put(0, 5, 2, 0).recordAll(3, 1, 0, 2, 1, 0).showAll(0, 0, 1, 5, NONE, NONE, NONE, 2);
        r.commit(0, 4).crash(0).begin(0, 2).get(0, 5, 2).count(5, 3);
    }

    private static void out() {
        Run r = run("OUT: the entry of a key is gone");
        r.begin(0, 1).putAll(0, 1, 2, 3).remove(0, 2, 20).recordAll(4, 2, 0, 3, 1, 0).showAll(0, 0, 2, 1, 3, NONE, NONE, 10, 30, NONE);
        r.remove(0, 1, 10).remove(0, 3, 30).show(0, 1, 0).commit(0, 7).crash(0).begin(0, 2).get(0, 2, ELEMENT).count(5, 6);
    }

    private static void beforeAValue() {
        Run r = run("what the entry was before (a value)");
        r.begin(0, 1).put(0, 1, NONE, 0).put(0, 2, 0, 0).put(0, 3, LEAST, 0).put(0, 4, NONE, 0).commit(0, 5);
        r.begin(0, 2).put(0, 1, 9, 0).put(0, 2, 9, 0).remove(0, 3, LEAST).remove(0, 4, NONE).abort(0, 4);
        r.showAll(0, 0, 4, 1, 2, 3, 4, NONE, 0, LEAST, NONE).begin(0, 3).get(0, 1, NONE).get(0, 4, NONE);
        r.record(10, 0, 1).record(11, 0, 1).record(12, 0, 1).record(13, 0, 1).record(14, 0, 7);
    }

    private static void beforeNone() {
        Run r = run("what the entry was before (none)");
        r.begin(0, 1).put(0, 1, NONE, 0).put(0, 2, 0, 0).abort(0, 2).show(0, 1, 0).record(3, 0, 2).record(4, 0, 2);
        r.begin(0, 2).put(0, 1, 5, 0).remove(0, 1, 5).put(0, 1, 6, 0).abort(0, 3).show(0, 1, 0);
        r.recordAll(9, 2, 0, 8, 2, 8).recordAll(10, 1, 0, 9, 2, 7).recordAll(11, 2, 0, 10, 2, 6).recordAll(12, 7, NONE, NONE, 2, 0);
    }

    private static void format() {
        Run r = Trees.fiveKeys(run("FORMAT: all of a page becomes what the record says"));
        r.showAll(0, 1, 2, 1, 2, NONE, NONE, 2, NONE, NONE, NONE).showAll(1, 0, 2, 0, 1, NONE, NONE, 0, 10, NONE, NONE);
        r.commit(0, 9).crash(0).begin(0, 2).get(0, 0, 0).count(5, 6).get(0, 4, 40).count(5, 8);
        r.showAll(0, 1, 2, 1, 2, NONE, NONE, 2, NONE, NONE, NONE);
    }

    private static void cut() {
        Run leaf = Trees.fiveKeys(run("CUT: a page keeps its first 2 entries"));
        leaf.putAll(0, 5).show(2, 1, 4).put(0, 6, 60, 1).showAll(2, 0, 2, 2, 3, NONE, NONE, 20, 30, NONE, NONE);
        Run branch = Trees.thirteenKeys(run("CUT: a page keeps its first 2 children"));
        branch.put(0, 13, 130, 1).record(33, 0, 4).showAll(6, 1, 2, 3, 4, NONE, NONE, 6, NONE, NONE, NONE);
    }

    private static void link() {
        Run r = run("LINK: a branch gets a separator and a child behind one of its children");
        r.begin(0, 1).putAll(0, 10, 20, 30, 31).put(0, 32, 320, 1).putAll(0, 11, 12).put(0, 13, 130, 1);
        r.showAll(0, 1, 3, 1, 3, 2, NONE, 12, 30, NONE, NONE).putAll(0, 14).put(0, 15, 150, 1);
        r.showAll(0, 1, 4, 1, 3, 4, 2, 12, 14, 30, NONE);
        Run last = Trees.fiveKeys(run("LINK behind the last child"));
        last.putAll(0, 5).put(0, 6, 60, 1).showAll(0, 1, 3, 1, 2, 3, NONE, 2, 4, NONE, NONE);
    }

    private static void commitAndEnd() {
        Run r = run("COMMIT and END are of a transaction alone");
        r.begin(0, 1).begin(1, 2).put(0, 1, 10, 0).commit(0, 2).abort(1, 0);
        r.recordAll(2, 6, NONE, NONE, 1, 0).recordAll(3, 7, NONE, NONE, 2, 0).page(0, 4, 1).page(0, 5, 1);
        r.begin(0, 3).put(0, 1, 11, 0).recordAll(4, 1, 0, 1, 3, 0);
    }

    private static void lsn() {
        Run r = run("The LSN of a page is the number of the latest record that is in force in it (0 for none)");
        r.backup(0, 1).page(0, 2, 0).begin(0, 1).put(0, 1, 10, 0).backup(0, 1).page(0, 2, 1);
        r.begin(1, 2).commit(1, 2).backup(0, 1).page(0, 2, 1).put(0, 1, 11, 0).flush(0, 1).page(0, 1, 3);
        r.remove(0, 1, 11).flush(0, 1).page(0, 1, 4).abort(0, 3).flush(0, 1).page(0, 1, 7).count(1, 8).count(2, 7);
    }

    private static void forcedAtFirst() {
        Run r = run("The log is FORCED up to some record (0 at first)");
        r.count(2, 0).begin(0, 1).putAll(0, 1, 2).count(2, 0).abort(0, 2).count(2, 0).crash(0).count(1, 0).count(2, 0);
    }

    private static void forceUpToThat() {
        Run r = run("To FORCE it up to a record: that");
        r.begin(0, 1).begin(1, 2).putAll(0, 1).flush(0, 1).count(2, 1).putAll(0, 2, 3).backup(0, 1).count(2, 3);
        r.putAll(0, 4).commit(1, 5).count(2, 5).put(0, 4, 41, 0).count(2, 5).crash(1).count(1, 5).count(2, 5);
    }

    private static void forceOfARootSplit() {
        Run first = run("if it is one of a SPLIT, the last of that split: the first of a root's");
        Trees.fiveKeys(first).flush(1, 1).page(1, 1, 5).count(2, 7).crash(1).count(1, 7).count(0, 3);
        Run second = run("if it is one of a SPLIT, the last of that split: the second of a root's");
        second.begin(0, 1).putAll(0, 1, 2, 3, 4).put(0, 0, 0, 1).flush(2, 1).page(2, 1, 6).count(2, 7);
        Run third = run("if it is one of a SPLIT, the last of that split: the last of a root's");
        Trees.fiveKeys(third).flush(0, 1).page(0, 1, 7).count(2, 7);
    }

    private static Run splitWithTheNewKeyBelow(String name) {
        Run r = run("if it is one of a SPLIT, the last of that split: " + name);
        r.begin(0, 1).putAll(0, 0, 1, 10, 20).put(0, 30, 300, 1).putAll(0, 39).put(0, 11, 110, 1);
        return r.record(10, 0, 3).record(11, 0, 4).record(12, 0, 5).record(13, 0, 1).count(1, 13);
    }

    private static void forceOfASplitBelow() {
        splitWithTheNewKeyBelow("FORMAT").flush(3, 1).page(3, 1, 10).count(2, 12).crash(1).count(1, 12).count(0, 4);
        splitWithTheNewKeyBelow("LINK").flush(0, 1).page(0, 1, 12).count(2, 12);
        splitWithTheNewKeyBelow("a record behind it").flush(2, 1).page(2, 1, 13).count(2, 13);
        Run cut = Trees.fiveKeys(run("if it is one of a SPLIT, the last of that split: CUT"));
        cut.putAll(0, 5).put(0, 6, 60, 1).flush(2, 1).page(2, 1, 11).count(2, 12).crash(1).count(1, 12).count(0, 4);
    }

    private static void forceBesideASplit() {
        Run before = Trees.fiveKeys(run("a record just before a SPLIT is forced alone"));
        before.putAll(0, 5).put(0, 0, 1, 0).put(0, 6, 60, 1).record(10, 0, 1).record(11, 0, 3);
        before.flush(1, 1).page(1, 1, 10).count(2, 10).crash(1).count(0, 3).show(2, 1, 4);
        Run behind = Trees.fiveKeys(run("a record just behind a SPLIT is forced itself"));
        behind.flush(2, 1).page(2, 1, 8).count(2, 8);
        Run backup = Trees.fiveKeys(run("a backup forces the whole SPLIT too"));
        backup.backup(1, 1).page(1, 2, 5).count(2, 7).backup(2, 1).count(2, 8);
    }

    private static void forceOfOneOfTwoSplits() {
        Run r = Trees.rootAndLeafFull(run("the last of that split, not of the next one"));
        r.put(0, 3, 30, 2).record(22, 1, 6).record(24, 0, 3).record(26, 0, 5);
        r.flush(6, 1).page(6, 1, 22).count(2, 23).flush(1, 1).page(1, 1, 25).count(2, 26).flush(7, 1).count(2, 27);

        Run lost = Trees.rootAndLeafFull(run("the next split is lost by a crash, the first is not"));
        lost.put(0, 3, 30, 2).flush(6, 1).crash(1).count(1, 23).count(0, 7).show(1, 1, 4);
        lost.showAll(5, 1, 2, 1, 2, NONE, NONE, 20, NONE).showAll(0, 1, 2, 5, 6, NONE, NONE, 35, NONE).show(7, 0, NONE);
    }

    private static void forcedSoFarAlready() {
        Run r = Trees.fiveKeys(run("if it is not forced so far already"));
        r.commit(0, 9).count(2, 9).flush(1, 1).page(1, 1, 5).count(2, 9).flush(0, 1).count(2, 9).backup(2, 1).count(2, 9);
        r.crash(0).count(1, 9).backup(1, 1).count(2, 9);
    }
}

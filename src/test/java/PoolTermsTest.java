/** What the document's terms say of the pool, of images and backups, reading and repairing: a test for each sentence, named by it. */
public final class PoolTermsTest {
    private static final int NONE = PageKeeper.NONE;
    private static final String ELEMENT = Checks.ELEMENT;

    private static final int READS = 3;
    private static final int WRITES = 4;
    private static final int REDONE = 5;
    private static final int REPAIRS = 6;

    private static final Checks CHECKS = new Checks();

    private static Run run(String name) {
        return new Run(CHECKS, name);
    }

    public static void main(String[] args) {
        noneAtFirst();
        atMostSix();
        imageAtFirst();
        imageIsWhatWasLastWritten();
        roomOnlyIfNotInThePool();
        leastLatelyLeaves();
        everyFixingCounts();
        writtenBeforeItLeaves();
        writtenOnlyIfAbove();
        forcedBeforeItIsWritten();
        writtenIsUndamaged();
        readFromTheImage();
        readRedoesWhatIsAbove();
        repairedFromAnEmptyLeaf();
        repairedFromItsBackup();
        repairedOfEachKindOfRecord();
        repairLeavesTheImageDamaged();
        newPageIsNotRead();
        newPageMakesRoom();
        newPageCountsAsFixed();
        changedIsFixed();
        CHECKS.close("PoolTermsTest");
    }

    private static void inPool(Run r, int... wants) {
        for (int page = 0; page < wants.length; page++) {
            r.page(page, 0, wants[page]);
        }
    }

    /** Ten keys in seven pages, all in the log that is forced; the image of page 1 alone was written. */
    private static Run sevenPagesAfterACrash(String name) {
        Run r = Trees.tenKeys(run(name)).commit(0, 23).crash(0);
        inPool(r, 0, 0, 0, 0, 0, 0, 0);
        return r.count(READS, 1).count(WRITES, 1).count(REDONE, 0);
    }

    private static Run backups(Run r, int... pages) {
        for (int page : pages) {
            r.backup(page, 1);
        }
        return r;
    }

    private static void noneAtFirst() {
        Run r = run("THE POOL has none at first");
        r.page(0, 0, 0).begin(0, 1).page(0, 0, 0).get(0, 1, ELEMENT).page(0, 0, 1).count(READS, 1);
    }

    private static void atMostSix() {
        Run r = sevenPagesAfterACrash("THE POOL has at most 6 pages");
        backups(r, 0, 1, 2, 3, 4);
        inPool(r, 1, 1, 1, 1, 1, 0, 0);
        inPool(r.backup(5, 1), 1, 1, 1, 1, 1, 1, 0);
        inPool(r.backup(6, 1), 0, 1, 1, 1, 1, 1, 1);
        r.count(READS, 8).count(REDONE, 21);
    }

    private static void imageAtFirst() {
        Run r = Trees.fiveKeys(run("an IMAGE (an empty leaf with LSN 0 at first)"));
        for (int page = 0; page < 3; page++) {
            r.page(page, 1, 0).page(page, 3, 0);
        }
        r.commit(0, 9).crash(0).page(1, 1, 0).page(2, 1, 0).begin(0, 2).get(0, 4, 40).count(REDONE, 7).count(REPAIRS, 0);
    }

    private static void imageIsWhatWasLastWritten() {
        Run r = run("its contents and LSN as they were when it was last written");
        r.begin(0, 1).putAll(0, 1, 2).flush(0, 1).page(0, 1, 2).putAll(0, 3).page(0, 1, 2).page(0, 4, 3);
        r.flush(0, 1).page(0, 1, 3).put(0, 3, 31, 0).commit(0, 5).crash(0).page(0, 1, 3);
        r.begin(0, 2).get(0, 3, 31).count(REDONE, 1).page(0, 1, 3);
    }

    private static void roomOnlyIfNotInThePool() {
        Run r = sevenPagesAfterACrash("if it is not in the pool, room is made");
        backups(r, 0, 1, 2, 3, 4, 5, 5, 0, 3);
        inPool(r, 1, 1, 1, 1, 1, 1, 0);
        r.count(READS, 7).count(WRITES, 1);
    }

    private static void leastLatelyLeaves() {
        Run r = sevenPagesAfterACrash("if there are 6, the one that was fixed least lately leaves");
        backups(r, 3, 5, 0, 1, 2, 4);
        inPool(r.backup(6, 1), 1, 1, 1, 0, 1, 1, 1);
        inPool(r.backup(3, 1), 1, 1, 1, 1, 1, 0, 1);
        inPool(backups(r, 0, 5), 1, 0, 1, 1, 1, 1, 1);
        inPool(backups(r, 2, 1), 1, 1, 1, 1, 0, 1, 1);
    }

    private static void everyFixingCounts() {
        Run r = sevenPagesAfterACrash("fixed least lately: going down fixes too");
        backups(r, 0, 6, 4, 1, 2, 5).begin(0, 2).get(0, 9, 90);
        inPool(r.backup(3, 1), 1, 0, 1, 1, 1, 1, 1);

        Run way = sevenPagesAfterACrash("fixed least lately: the root before the leaf");
        backups(way, 1, 2, 5).begin(0, 2).get(0, 9, 90);
        inPool(backups(way, 1, 2, 5, 3), 0, 1, 1, 1, 1, 1, 1);
        inPool(way.backup(0, 1), 1, 1, 1, 1, 1, 1, 0);
        inPool(way.backup(6, 1), 1, 1, 1, 1, 0, 1, 1);
    }

    private static void writtenBeforeItLeaves() {
        Run r = sevenPagesAfterACrash("if its LSN is above that of its image, it is WRITTEN before");
        backups(r, 0, 1, 2, 3, 4, 5).page(0, 1, 0).count(WRITES, 1).backup(6, 1).page(0, 1, 21).count(WRITES, 2);
        r.page(0, 0, 0).backup(0, 1).count(REDONE, 21).show(0, 1, 2);
    }

    private static void writtenOnlyIfAbove() {
        Run r = sevenPagesAfterACrash("if its LSN is that of its image, it is not written");
        backups(r, 1, 0, 2, 3, 4, 5, 6).page(1, 0, 0).page(1, 1, 5).count(WRITES, 1);
        r.backup(1, 1).count(WRITES, 2).page(0, 1, 21).flush(2, 1).count(WRITES, 3).backup(0, 1);
        r.page(2, 0, 0).page(2, 1, 11).count(WRITES, 3);
    }

    private static void forcedBeforeItIsWritten() {
        Run r = Trees.nineKeys(run("the log is forced up to its LSN"));
        r.put(0, 9, 90, 1).page(1, 0, 0).page(1, 1, 5).count(2, 7).count(WRITES, 1);
        r.get(0, 0, 0).page(2, 0, 0).page(2, 1, 11).count(2, 12).count(WRITES, 2);
        r.crash(1).count(1, 12).count(0, 4);
    }

    private static void writtenIsUndamaged() {
        Run leaves = Trees.nineKeys(run("the image becomes what the page is, undamaged: as it leaves"));
        leaves.damage(1, 1).page(1, 3, 1).put(0, 9, 90, 1).page(1, 0, 0).page(1, 3, 0).page(1, 1, 5);
        leaves.get(0, 1, 10).count(REPAIRS, 0).count(REDONE, 0);

        Run flushed = run("the image becomes what the page is, undamaged: as it is flushed");
        flushed.damage(0, 1).begin(0, 1).putAll(0, 1).page(0, 3, 1).flush(0, 1).page(0, 3, 0).damage(0, 1).page(0, 3, 1);

        Run clean = sevenPagesAfterACrash("an image stays damaged if its page is not written");
        backups(clean, 1, 0, 2, 3, 4, 5).damage(1, 1).backup(6, 1).page(1, 0, 0).page(1, 3, 1).count(WRITES, 1);
        clean.backup(1, 1).count(REPAIRS, 1).count(REDONE, 21).page(1, 3, 1);
    }

    /** Three entries by the records 1 to 3, with what is stored between them; then COMMIT, and a crash. */
    private static Run threeEntries(String name, int backupBehind, int flushBehind) {
        Run r = run(name).begin(0, 1);
        for (int n = 0; n <= 3; n++) {
            if (n > 0) {
                r.put(0, n, 10 * n, 0);
            }
            if (backupBehind == n) {
                r.backup(0, 1).page(0, 2, n);
            }
            if (flushBehind == n) {
                r.flush(0, n > 0 ? 1 : 0).page(0, 1, n);
            }
        }
        return r.count(READS, 1).count(REDONE, 0).commit(0, 4).crash(0);
    }

    private static void broughtUp(Run r, int redone, int repairs) {
        r.begin(0, 2).get(0, 3, 30).get(0, 1, 10).get(0, 2, 20).get(0, 4, ELEMENT);
        r.count(READS, 2).count(REDONE, redone).count(REPAIRS, repairs);
    }

    private static void readFromTheImage() {
        broughtUp(threeEntries("the page is READ: from its image, with nothing above it", NONE, 3), 0, 0);
        broughtUp(threeEntries("the page is READ: from its image, not from a backup that is newer", 3, NONE), 3, 0);
        broughtUp(threeEntries("the page is READ: from its image, not from a backup that is older", 1, 3), 0, 0);

        Run once = run("a page of the pool is not READ again");
        once.begin(0, 1).get(0, 1, ELEMENT).get(0, 1, ELEMENT).putAll(0, 1).get(0, 1, 10).backup(0, 1).count(READS, 1);
        once.flush(0, 1).get(0, 1, 10).count(READS, 1).damage(0, 1).get(0, 1, 10).count(READS, 1).count(REPAIRS, 0);
    }

    private static void readRedoesWhatIsAbove() {
        for (int behind = 1; behind <= 3; behind++) {
            broughtUp(threeEntries("all records of this page above the LSN " + behind + " of the image are REDONE", NONE, behind), 3 - behind, 0);
        }
        broughtUp(threeEntries("all records of this page above the LSN 0 are REDONE", NONE, NONE), 3, 0);
    }

    private static void repairedFromAnEmptyLeaf() {
        broughtUp(threeEntries("REPAIRED from an empty leaf with LSN 0, if it has none", NONE, NONE).damage(0, 1), 3, 1);
        broughtUp(threeEntries("REPAIRED from an empty leaf, though the image was new", NONE, 3).damage(0, 1), 3, 1);

        Run none = run("REPAIRED from an empty leaf, with no record to redo");
        none.damage(0, 1).begin(0, 1).get(0, 1, ELEMENT).count(READS, 1).count(REDONE, 0).count(REPAIRS, 1);
    }

    private static void repairedFromItsBackup() {
        for (int behind = 0; behind <= 3; behind++) {
            broughtUp(threeEntries("REPAIRED from its backup with LSN " + behind, behind, NONE).damage(0, 1), 3 - behind, 1);
            broughtUp(threeEntries("REPAIRED from its backup with LSN " + behind + ", though the image was new", behind, 3).damage(0, 1), 3 - behind, 1);
        }
    }

    private static void repairedOfEachKindOfRecord() {
        Run r = Trees.thirteenKeys(run("all records of this page are REDONE, one after the other"));
        r.put(0, 13, 130, 1).remove(0, 5, 50).put(0, 5, 51, 0).commit(0, 38).crash(0);
        for (int page = 0; page < 10; page++) {
            r.damage(page, 1);
        }
        r.begin(0, 2);
        for (int key = 0; key < 14; key++) {
            r.get(0, key, key == 5 ? 51 : 10 * key);
        }
        r.get(0, 14, ELEMENT).showAll(0, 1, 3, 5, 6, 9, NONE, 4, 8, NONE, NONE);
        r.showAll(6, 1, 2, 3, 4, NONE, NONE, 6, NONE, NONE, NONE).showAll(3, 0, 2, 4, 5, NONE, NONE, 40, 51, NONE, NONE);

        Run alone = Trees.fiveKeys(run("all records of this page, and of no other"));
        alone.commit(0, 9).crash(0).damage(2, 1).backup(2, 1).count(READS, 2).count(REPAIRS, 1).count(REDONE, 2).page(2, 2, 8);
        alone.damage(0, 1).backup(0, 1).count(REDONE, 7).damage(1, 1).backup(1, 1).count(REDONE, 8).count(REPAIRS, 3);
    }

    private static void repairLeavesTheImageDamaged() {
        Run r = run("REPAIRED is the page, not its image, and that again with each read");
        r.begin(0, 1).putAll(0, 1, 2).commit(0, 3).flush(0, 1).damage(0, 1).crash(0).begin(0, 2).get(0, 1, 10);
        r.page(0, 3, 1).page(0, 1, 2).count(REPAIRS, 1).count(REDONE, 2).flush(0, 0).page(0, 3, 1).crash(0);
        r.begin(0, 3).get(0, 1, 10).count(REPAIRS, 2).count(REDONE, 4).count(WRITES, 1);
        r.put(0, 1, 11, 0).flush(0, 1).page(0, 3, 0).commit(0, 5).crash(0).begin(0, 4).get(0, 1, 11);
        r.count(REPAIRS, 2).count(REDONE, 4).count(WRITES, 2).count(READS, 4);

        Run old = run("REPAIRED and above the LSN of its image, it is written");
        old.begin(0, 1).putAll(0, 1).flush(0, 1).putAll(0, 2).commit(0, 3).damage(0, 1).crash(0).begin(0, 2).get(0, 2, 20);
        old.count(REPAIRS, 1).count(REDONE, 2).page(0, 3, 1).flush(0, 1).page(0, 3, 0).page(0, 1, 2);
    }

    private static void newPageIsNotRead() {
        Run r = Trees.fiveKeys(run("A page that is made new comes into the pool without being read"));
        inPool(r, 1, 1, 1);
        r.count(READS, 1).putAll(0, 5).put(0, 6, 60, 1).page(3, 0, 1).count(READS, 1).count(REDONE, 0);
    }

    private static void newPageMakesRoom() {
        Run r = Trees.nineKeys(run("A page that is made new: room being made likewise"));
        inPool(r, 1, 1, 1, 1, 1);
        inPool(r.put(0, 9, 90, 1), 1, 0, 1, 1, 1, 1, 1);
        r.count(WRITES, 1).count(READS, 1).put(0, 10, 100, 1);
        inPool(r, 1, 0, 0, 1, 1, 1, 1, 1);
        r.count(WRITES, 2).count(READS, 1).page(2, 1, 11).count(2, 12);
    }

    private static void newPageCountsAsFixed() {
        Run r = Trees.tenKeys(run("A page that is made new counts as fixed"));
        inPool(r.backup(1, 1), 1, 1, 0, 1, 1, 1, 1);
        inPool(r.backup(2, 1), 1, 1, 1, 0, 1, 1, 1);
        inPool(r.backup(3, 1), 1, 1, 1, 1, 1, 0, 1);
    }

    private static void changedIsFixed() {
        Run root = Trees.tenKeys(run("What is changed by a record is fixed at that time: FORMAT of the root"));
        backups(root, 1, 2, 3);
        inPool(root.backup(5, 1), 0, 1, 1, 1, 1, 1, 1);
        inPool(root.backup(0, 1), 1, 1, 1, 1, 1, 1, 0);

        Run below = Trees.tenKeys(run("What is changed by a record is fixed at that time: CUT and LINK"));
        below.put(0, 10, 100, 1);
        inPool(backups(below, 1), 1, 1, 0, 0, 1, 1, 1, 1);
        inPool(backups(below, 2), 1, 1, 1, 0, 1, 0, 1, 1);
        inPool(backups(below, 3), 0, 1, 1, 1, 1, 0, 1, 1);
        inPool(backups(below, 5), 0, 1, 1, 1, 0, 1, 1, 1);
        inPool(backups(below, 0), 1, 1, 1, 1, 0, 1, 0, 1);
    }
}

/** What the document's terms say of keys, pages, splitting, putting and taking out: a test for each sentence, named by it. */
public final class TreeTermsTest {
    private static final int NONE = PageKeeper.NONE;
    private static final int LEAST = Integer.MIN_VALUE;
    private static final int MOST = Integer.MAX_VALUE;
    private static final String ARGUMENT = Checks.ARGUMENT;
    private static final String ELEMENT = Checks.ELEMENT;

    private static final Checks CHECKS = new Checks();

    private static Run run(String name) {
        return new Run(CHECKS, name);
    }

    public static void main(String[] args) {
        keys();
        values();
        pageNumbers();
        leafEntries();
        leafEntriesRise();
        branchChildren();
        fullLeaf();
        fullBranch();
        fullBranchBelow();
        root();
        down();
        downThroughTwoBranches();
        halves();
        halvesOfABranch();
        separatorOfALeaf();
        recordsOfARootSplit();
        recordsOfASplitBelow();
        parentIsNotFull();
        puttingToAnEntryThatIsThere();
        puttingGoesOnToTheHalf();
        takingOut();
        CHECKS.close("TreeTermsTest");
    }

    private static void keys() {
        Run r = run("KEYS are 0 .. 39");
        r.begin(0, 1);
        for (int none : new int[] {-1, 40, LEAST, MOST}) {
            r.put(0, none, 1, ARGUMENT).get(0, none, ARGUMENT).remove(0, none, ARGUMENT).lock(0, none, NONE);
        }
        r.put(0, 0, 7, 0).put(0, 39, 8, 0).get(0, 0, 7).get(0, 39, 8).lock(0, 0, 2).lock(0, 39, 2);
        r.remove(0, 0, 7).remove(0, 39, 8).get(0, 0, ELEMENT).get(0, 39, ELEMENT).count(1, 4);

        // A leaf is split at each even key from 4 on, and on each level of branches one that has got
        // four children is split at the next put.
        int[] splits = {0, 0, 0, 0, 1, 0, 1, 0, 1, 1, 1, 0, 1, 1, 1, 0, 1, 1, 2, 0,
            1, 1, 1, 0, 1, 1, 2, 0, 1, 1, 1, 0, 1, 1, 2, 1, 1, 1, 1, 0};
        Run all = run("KEYS are 0 .. 39, all of them");
        all.begin(0, 1);
        for (int key = 0; key < 40; key++) {
            all.put(0, key, 10 * key, splits[key]);
        }
        for (int key = 0; key < 40; key++) {
            all.get(0, key, 10 * key);
        }
    }

    private static void values() {
        Run r = run("values ints");
        r.begin(0, 1).put(0, 1, LEAST, 0).put(0, 2, MOST, 0).put(0, 3, NONE, 0).put(0, 4, 0, 0);
        r.get(0, 1, LEAST).get(0, 2, MOST).get(0, 3, NONE).get(0, 4, 0);
        r.showAll(0, 0, 4, 1, 2, 3, 4, LEAST, MOST, NONE, 0);
        r.put(0, 5, 1, 1).get(0, 3, NONE).get(0, 1, LEAST).showAll(1, 0, 2, 1, 2, NONE, NONE, LEAST, MOST, NONE, NONE);
        r.remove(0, 1, LEAST).remove(0, 2, MOST).remove(0, 3, NONE).remove(0, 4, 0);
    }

    private static void pageNumbers() {
        Run r = Trees.fiveKeys(run("PAGES have the numbers 0, 1, .., as they are made"));
        r.record(5, 1, 1).record(6, 1, 2).show(2, 0, 0).show(3, 0, NONE);
        r.putAll(0, 5).count(0, 3).put(0, 6, 60, 1).count(0, 4).record(10, 1, 3).show(3, 0, 0).show(4, 0, NONE);
        r.putAll(0, 7).put(0, 8, 80, 1).record(15, 1, 4).put(0, 9, 90, 1).record(19, 1, 5).record(20, 1, 6).count(0, 7);

        Run again = Trees.fiveKeys(run("PAGES have numbers that a crash gives back"));
        again.flush(2, 1).putAll(0, 5).put(0, 6, 60, 1).count(0, 4).crash(1).count(0, 3).settle(1);
        again.begin(0, 2).putAll(0, 2, 3, 4, 5).count(0, 3).put(0, 6, 60, 1).count(0, 4).show(3, 1, 3);
    }

    private static void leafEntries() {
        Run r = run("a LEAF with 0 to 4 ENTRIES, each a key and a value");
        r.showAll(0, 0, 0, NONE, NONE, NONE, NONE, NONE, NONE, NONE, NONE).begin(0, 1);
        r.putAll(0, 1).showAll(0, 0, 1, 1, NONE, NONE, NONE, 10, NONE, NONE, NONE);
        r.putAll(0, 2).showAll(0, 0, 2, 1, 2, NONE, NONE, 10, 20, NONE, NONE);
        r.putAll(0, 3).showAll(0, 0, 3, 1, 2, 3, NONE, 10, 20, 30, NONE);
        r.putAll(0, 4).showAll(0, 0, 4, 1, 2, 3, 4, 10, 20, 30, 40);
        r.remove(0, 4, 40).remove(0, 1, 10).showAll(0, 0, 2, 2, 3, NONE, NONE, 20, 30, NONE, NONE);
        r.remove(0, 3, 30).remove(0, 2, 20).showAll(0, 0, 0, NONE, NONE, NONE, NONE, NONE, NONE, NONE, NONE);

        Run below = Trees.fiveKeys(run("a LEAF below the root with 0 ENTRIES"));
        below.remove(0, 0, 0).remove(0, 1, 10).showAll(1, 0, 0, NONE, NONE, NONE, NONE, NONE, NONE, NONE, NONE);
        below.get(0, 0, ELEMENT).remove(0, 1, ELEMENT).count(0, 3).showAll(0, 1, 2, 1, 2);
        below.put(0, 1, 11, 0).showAll(1, 0, 1, 1, NONE, NONE, NONE, 11).commit(0, 12);
    }

    private static void leafEntriesRise() {
        Run r = run("ENTRIES by rising keys");
        r.begin(0, 1).put(0, 20, 1, 0).put(0, 39, 2, 0).put(0, 0, 3, 0).put(0, 21, 4, 0);
        r.showAll(0, 0, 4, 0, 20, 21, 39, 3, 1, 4, 2);
        r.remove(0, 20, 1).showAll(0, 0, 3, 0, 21, 39, NONE, 3, 4, 2, NONE);
        r.put(0, 19, 5, 0).showAll(0, 0, 4, 0, 19, 21, 39, 3, 5, 4, 2);
    }

    private static void branchChildren() {
        Run r = Trees.fiveKeys(run("a BRANCH with 2 to 4 CHILDREN and a SEPARATOR between each two of them"));
        r.showAll(0, 1, 2, 1, 2, NONE, NONE, 2, NONE, NONE, NONE).putAll(0, 5).put(0, 6, 60, 1);
        r.showAll(0, 1, 3, 1, 2, 3, NONE, 2, 4, NONE, NONE).putAll(0, 7).put(0, 8, 80, 1);
        r.showAll(0, 1, 4, 1, 2, 3, 4, 2, 4, 6, NONE).put(0, 9, 90, 1);
        r.showAll(0, 1, 2, 5, 6, NONE, NONE, 4, NONE, NONE, NONE);
    }

    private static void fullLeaf() {
        Run r = run("A leaf with 4 entries is FULL");
        r.begin(0, 1).putAll(0, 1, 2, 3).put(0, 4, 40, 0).count(0, 1).put(0, 5, 50, 1).count(0, 3);
        r.show(2, 1, 3).put(0, 6, 60, 0).show(2, 1, 4).put(0, 7, 70, 1).count(0, 4);

        Run emptied = run("A leaf that had 4 entries is not FULL");
        emptied.begin(0, 1).putAll(0, 1, 2, 3, 4).remove(0, 4, 40).put(0, 5, 50, 0).count(0, 1).put(0, 4, 40, 1);
    }

    private static void fullBranch() {
        Run r = Trees.fiveKeys(run("A branch with 4 children is FULL, with 3 it is not"));
        r.putAll(0, 5).put(0, 6, 60, 1).show(0, 1, 3).put(0, 7, 70, 0).put(0, 8, 80, 1);
        r.show(0, 1, 4).put(0, 9, 90, 1).show(0, 1, 2).count(0, 7).show(4, 1, 4);

        Run low = Trees.nineKeys(run("A FULL branch is split for a leaf that is not full"));
        low.remove(0, 0, 0).put(0, 0, 1, 1).count(0, 7).show(1, 1, 2).show(0, 1, 2);
    }

    private static void fullBranchBelow() {
        Run r = Trees.tenKeys(run("A branch below the root with 4 children is FULL, with 3 it is not"));
        r.put(0, 10, 100, 1).show(6, 1, 3).put(0, 11, 110, 0).put(0, 12, 120, 1).show(6, 1, 4).count(0, 9);
        r.put(0, 13, 130, 1).count(0, 10).show(6, 1, 2).show(0, 1, 3).show(8, 1, 4);
        r.put(0, 14, 140, 1).count(0, 11).show(9, 1, 3);
    }

    private static void root() {
        Run r = run("Page 0 is the ROOT, an empty leaf at first");
        r.show(0, 0, 0).show(0, 1, 0).page(0, 4, 0).count(0, 1).show(1, 0, NONE);
        Trees.tenKeys(r).showAll(0, 1, 2, 5, 6).commit(0, 23).crash(0);
        r.begin(2, 2).get(2, 9, 90).page(0, 0, 1).page(6, 0, 1).page(4, 0, 1).page(5, 0, 0);
    }

    private static void down() {
        Run r = Trees.nineKeys(run("DOWN to the child behind as many separators as are not above the key"));
        r.commit(0, 19);
        int[] keys = {0, 1, 2, 3, 4, 5, 6, 7, 8, 9, 39};
        int[] leaves = {1, 1, 2, 2, 3, 3, 4, 4, 4, 4, 4};
        for (int i = 0; i < keys.length; i++) {
            r.crash(0).begin(0, i + 2).get(0, keys[i], keys[i] < 9 ? 10 * keys[i] : ELEMENT);
            for (int leaf = 1; leaf <= 4; leaf++) {
                r.page(leaf, 0, leaf == leaves[i] ? 1 : 0);
            }
        }
    }

    private static void downThroughTwoBranches() {
        Run r = Trees.tenKeys(run("DOWN from the root to a leaf, through two branches"));
        r.commit(0, 23);
        int[] keys = {1, 2, 3, 4, 5, 6, 39};
        int[] branches = {5, 5, 5, 6, 6, 6, 6};
        int[] leaves = {1, 2, 2, 3, 3, 4, 4};
        for (int i = 0; i < keys.length; i++) {
            r.crash(0).begin(0, i + 2).get(0, keys[i], keys[i] < 9 ? 10 * keys[i] : ELEMENT).page(0, 0, 1);
            for (int page = 1; page <= 6; page++) {
                r.page(page, 0, page == branches[i] || page == leaves[i] ? 1 : 0);
            }
        }
    }

    private static void halves() {
        Run r = run("entries 2 and 3 (from 0) go to a new page");
        r.begin(0, 1).putAll(0, 10, 20, 30, 39).put(0, 5, 50, 1);
        r.showAll(1, 0, 3, 5, 10, 20, NONE, 50, 100, 200, NONE).showAll(2, 0, 2, 30, 39, NONE, NONE, 300, 390, NONE, NONE);
        r.putAll(0, 31, 32).put(0, 33, 330, 1).showAll(2, 0, 2, 30, 31, NONE, NONE, 300, 310, NONE, NONE);
        r.showAll(3, 0, 3, 32, 33, 39, NONE, 320, 330, 390, NONE);
    }

    private static void halvesOfABranch() {
        Run root = Trees.tenKeys(run("children 2 and 3 go to a new page, with the separator between these: the root"));
        root.showAll(5, 1, 2, 1, 2, NONE, NONE, 2, NONE, NONE, NONE).showAll(6, 1, 2, 3, 4, NONE, NONE, 6, NONE, NONE, NONE);
        root.showAll(0, 1, 2, 5, 6, NONE, NONE, 4, NONE, NONE, NONE);

        Run below = Trees.thirteenKeys(run("children 2 and 3 go to a new page, with the separator between these: below"));
        below.put(0, 13, 130, 1).showAll(6, 1, 2, 3, 4, NONE, NONE, 6, NONE, NONE, NONE);
        below.showAll(9, 1, 2, 7, 8, NONE, NONE, 10, NONE, NONE, NONE).showAll(0, 1, 3, 5, 6, 9, NONE, 4, 8, NONE, NONE);
    }

    private static void separatorOfALeaf() {
        Run r = run("S is the key of entry 2");
        r.begin(0, 1).putAll(0, 3, 9, 17, 30).put(0, 20, 200, 1).show(0, 6, 17);
        r.putAll(0, 4, 6).put(0, 5, 50, 1).showAll(0, 1, 3, 1, 3, 2, NONE, 6, 17, NONE, NONE);
    }

    private static void recordsOfARootSplit() {
        Run r = Trees.fiveKeys(run("if it is the root: FORMAT of the lower half, FORMAT of the upper half, FORMAT of the root"));
        r.recordAll(5, 3, 1, 0, 0, 0).recordAll(6, 3, 2, 0, 0, 0).recordAll(7, 3, 0, 4, 0, 0).recordAll(8, 1, 2, 6, 1, 0);

        Run branch = Trees.tenKeys(run("if it is the root, a branch"));
        branch.recordAll(19, 3, 5, 0, 0, 0).recordAll(20, 3, 6, 0, 0, 0).recordAll(21, 3, 0, 17, 0, 0);
        branch.recordAll(22, 1, 4, 18, 1, 0).page(0, 5, 8);
    }

    private static void recordsOfASplitBelow() {
        Run r = Trees.fiveKeys(run("Otherwise: FORMAT of the new page, CUT of the full one, LINK of its parent"));
        r.putAll(0, 5).put(0, 6, 60, 1).recordAll(10, 3, 3, 0, 0, 0).recordAll(11, 4, 2, 9, 0, 0);
        r.recordAll(12, 5, 0, 7, 0, 0).recordAll(13, 1, 3, 10, 1, 0).count(1, 13);

        Run branch = Trees.thirteenKeys(run("Otherwise, for a branch: FORMAT, CUT, LINK"));
        branch.put(0, 13, 130, 1).recordAll(32, 3, 9, 0, 0, 0).recordAll(33, 4, 6, 30, 0, 0);
        branch.recordAll(34, 5, 0, 21, 0, 0).recordAll(35, 1, 8, 31, 1, 0).count(1, 35);
    }

    private static void parentIsNotFull() {
        Run r = Trees.rootAndLeafFull(run("its parent (which is not full): the root is split before the leaf"));
        r.put(0, 3, 30, 2).record(21, 0, 3).record(23, 1, 0).record(25, 0, 4).recordAll(26, 5, 5, 21, 0, 0);
        r.showAll(5, 1, 3, 1, 7, 2, NONE, 2, 20, NONE, NONE).showAll(0, 1, 2, 5, 6, NONE, NONE, 35);
    }

    private static void puttingToAnEntryThatIsThere() {
        Run r = Trees.rootAndLeafFull(run("if its entry is there, SET: nothing is split"));
        r.put(0, 0, 5, 0).put(0, 1, 6, 0).put(0, 10, 7, 0).count(0, 5).count(1, 23).recordAll(21, 1, 1, 10, 1, 0);
        r.showAll(1, 0, 4, 0, 1, 2, 10, 5, 6, 20, 7);
    }

    private static void puttingGoesOnToTheHalf() {
        Run lower = Trees.rootAndLeafFull(run("that half which has the key now: just below S"));
        lower.remove(0, 30, 300).put(0, 34, 340, 1).showAll(2, 0, 2, 20, 34, NONE, NONE, 200, 340).show(0, 6, 35);
        Run at = Trees.rootAndLeafFull(run("that half which has the key now: S itself"));
        at.remove(0, 35, 350).put(0, 35, 351, 1).showAll(3, 0, 2, 35, 36, NONE, NONE, 351, 360).show(2, 1, 2);

        Run below = run("that half which has the key now: of a root that is a leaf");
        below.begin(0, 1).putAll(0, 10, 20, 30, 39).put(0, 29, 290, 1).showAll(1, 0, 3, 10, 20, 29).showAll(2, 0, 2, 30, 39);
        Run above = run("that half which has the key now: above S");
        above.begin(0, 1).putAll(0, 10, 20, 30, 39).put(0, 31, 310, 1).showAll(1, 0, 2, 10, 20).showAll(2, 0, 3, 30, 31, 39);

        Run leaf = run("that half which has the key now: of a leaf below the root");
        leaf.begin(0, 1).putAll(0, 0, 1, 10, 20).put(0, 30, 300, 1).putAll(0, 39).put(0, 29, 290, 1);
        leaf.showAll(2, 0, 3, 10, 20, 29).showAll(3, 0, 2, 30, 39).putAll(0, 31, 32).put(0, 33, 330, 1);
        leaf.showAll(3, 0, 2, 30, 31).showAll(4, 0, 3, 32, 33, 39);

        Run branch = Trees.thirteenKeys(run("that half which has the key now: of a branch below the root, just below S"));
        branch.remove(0, 7, 70).put(0, 7, 71, 1).showAll(4, 0, 2, 6, 7, NONE, NONE, 60, 71).show(0, 7, 8);
        Run right = Trees.thirteenKeys(run("that half which has the key now: of a branch below the root, S itself"));
        right.remove(0, 8, 80).put(0, 8, 81, 1).showAll(7, 0, 2, 8, 9, NONE, NONE, 81, 90).show(0, 7, 8);
    }

    private static void takingOut() {
        Run r = Trees.rootAndLeafFull(run("TAKING a key OUT: one goes down, fixing; if its entry is there, OUT"));
        r.remove(0, 2, 20).recordAll(21, 2, 1, 10, 1, 0).showAll(1, 0, 3, 0, 1, 10, NONE, 0, 10, 100, NONE);
        r.remove(0, 2, ELEMENT).remove(0, 3, ELEMENT).count(1, 21).count(0, 5).show(0, 1, 4);
    }
}

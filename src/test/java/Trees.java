/** Trees that the tests begin with, all made by one transaction at place 0 with the serial number 1. */
final class Trees {
    private static final int NONE = PageKeeper.NONE;

    private Trees() {
    }

    /** Keys 0 .. 4: the root with the leaves 1 (0, 1) and 2 (2, 3, 4); records 5 to 7 are of the split, 8 is behind it. */
    static Run fiveKeys(Run r) {
        r.begin(0, 1).putAll(0, 0, 1, 2, 3).put(0, 4, 40, 1);
        return r.count(0, 3).count(1, 8).count(2, 0);
    }

    /** Keys 0 .. 8: the root is full, with the leaves 1 (0, 1), 2 (2, 3), 3 (4, 5) and 4 (6, 7, 8); all are in the pool. */
    static Run nineKeys(Run r) {
        r.begin(0, 1).putAll(0, 0, 1, 2, 3).put(0, 4, 40, 1).putAll(0, 5).put(0, 6, 60, 1).putAll(0, 7);
        return r.put(0, 8, 80, 1).count(0, 5).count(1, 18).count(2, 0);
    }

    /** Keys 0 .. 9: the root has the branches 5 (leaves 1, 2) and 6 (leaves 3, 4); page 1 has left the pool. */
    static Run tenKeys(Run r) {
        return nineKeys(r).put(0, 9, 90, 1).count(0, 7).count(1, 22).count(2, 7);
    }

    /** Keys 0 .. 12: branch 6 is full, with the leaves 3 (4, 5), 4 (6, 7), 7 (8, 9) and 8 (10, 11, 12). */
    static Run thirteenKeys(Run r) {
        tenKeys(r).put(0, 10, 100, 1).putAll(0, 11).put(0, 12, 120, 1);
        return r.showAll(6, 1, 4, 3, 4, 7, 8, 6, 8, 10, NONE).count(0, 9).count(1, 31);
    }

    /** The leaf with the low keys is filled before the root is, so that a put of key 3 splits both. */
    static Run rootAndLeafFull(Run r) {
        r.begin(0, 1).putAll(0, 0, 10, 20, 30).put(0, 35, 350, 1).putAll(0, 1, 2, 36);
        r.put(0, 37, 370, 1).putAll(0, 38).put(0, 39, 390, 1);
        return r.showAll(0, 1, 4, 1, 2, 3, 4, 20, 35, 37, NONE).show(1, 1, 4).count(1, 20).count(0, 5);
    }

    /** The root is full, and so are its second child and the first leaf of that, so that a put of key 7 splits all three. */
    static Run threeLevelsFull(Run r) {
        int[] keys = {24, 0, 10, 1, 2, 3, 5, 6, 34, 32, 8, 9, 18, 11, 13, 14, 15, 16, 17, 19, 22, 23, 25, 26, 27};
        int[] splits = {0, 0, 0, 0, 1, 0, 1, 0, 0, 0, 1, 1, 1, 0, 1, 1, 1, 0, 1, 0, 0, 1, 0, 1, 1};
        r.begin(0, 1);
        for (int i = 0; i < keys.length; i++) {
            r.put(0, keys[i], 10 * keys[i], splits[i]);
        }
        r.showAll(0, 1, 4, 5, 6, 9, 14, 5, 18, 24, NONE).showAll(6, 1, 4, 4, 2, 10, 11, 10, 13, 15, NONE);
        return r.showAll(4, 0, 4, 5, 6, 8, 9, 50, 60, 80, 90).count(0, 15).count(1, 61);
    }
}

import java.util.NoSuchElementException;

/**
 * A tree of pages with a log.
 *
 * What a page has is held once, as the log tells it. An image or a backup is always what the log
 * tells up to its LSN, and the log never loses a record up to there, so of both the LSN is enough;
 * for the same reason a page in the pool always has all of its records in force.
 */
public final class PageKeeper {
    public static final int NONE = -1;

    private static final int KEYS = 40;
    private static final int PLACES = 4;
    private static final int POOL_PAGES = 6;
    private static final int ROOT = 0;
    private static final int FULL = 4;
    private static final int HALF = 2;
    private static final int NOBODY = 0;

    private static final int SET = 1;
    private static final int OUT = 2;
    private static final int FORMAT = 3;
    private static final int CUT = 4;
    private static final int LINK = 5;
    private static final int COMMIT = 6;
    private static final int END = 7;

    private static final int SHARED = 1;
    private static final int OWN = 2;

    private static final int SPLIT_ROWS = 3;

    // A split leaves at least two keys or children on either side: 40 keys give at most 20 leaves,
    // and these at most 10 + 5 + 2 + 1 branches.
    private static final int MOST_PAGES = 40;

    // The document's limit of calls. Of these only begin, put and remove let the log grow for good:
    // a begun transaction ends once in the log, and what is put or removed is undone once in it.
    private static final int MOST_CALLS = 512;
    private static final int MOST_ROWS = 2 * MOST_CALLS + SPLIT_ROWS * MOST_PAGES;

    private final Log log = new Log();
    private final Pool pool = new Pool();
    private final Locks locks = new Locks();
    private final Page[] pages = new Page[MOST_PAGES];
    private int pagesMade = 1;
    private final int[] serialAt = new int[PLACES];
    private int latestSerial = 0;
    private int growingCalls = 0;
    private int reads = 0;
    private int writes = 0;
    private int redone = 0;
    private int repairs = 0;

    public PageKeeper() {
        for (int i = 0; i < MOST_PAGES; i++) {
            pages[i] = new Page();
        }
    }

    public int begin(int t) throws IllegalArgumentException, IllegalStateException {
        checkPlace(t);
        if (serialAt[t] != NOBODY) {
            throw new IllegalStateException();
        }
        if (isWornOut()) {
            return NONE;
        }
        latestSerial++;
        serialAt[t] = latestSerial;
        return latestSerial;
    }

    public int get(int t, int key)
            throws IllegalArgumentException, IllegalStateException, NoSuchElementException {
        checkPlaceAndKey(t, key);
        checkOpen(t);
        if (locks.loserOn[key] != NOBODY) {
            rollBack(locks.loserOn[key]);
        }
        locks.takeShared(t, key);
        Contents leaf = pages[goDown(key)].contents;
        int at = leaf.indexOf(key);
        if (at == NONE) {
            throw new NoSuchElementException();
        }
        return leaf.tails[at];
    }

    public int put(int t, int key, int v) throws IllegalArgumentException, IllegalStateException {
        checkPlaceAndKey(t, key);
        checkOpen(t);
        if (locks.loserOn[key] != NOBODY) {
            rollBack(locks.loserOn[key]);
        }
        locks.takeOwn(t, key);
        if (isWornOut()) {
            return NONE;
        }
        return putValue(serialAt[t], key, v, 0);
    }

    public int remove(int t, int key)
            throws IllegalArgumentException, IllegalStateException, NoSuchElementException {
        checkPlaceAndKey(t, key);
        checkOpen(t);
        if (locks.loserOn[key] != NOBODY) {
            rollBack(locks.loserOn[key]);
        }
        locks.takeOwn(t, key);
        if (isWornOut()) {
            return NONE;
        }
        int taken = takeOut(serialAt[t], key, 0);
        if (taken == 0) {
            throw new NoSuchElementException();
        }
        return log.rows[taken].before;
    }

    public int commit(int t) throws IllegalArgumentException, IllegalStateException {
        checkPlace(t);
        checkOpen(t);
        LogRow row = log.add(COMMIT, NONE, NONE, serialAt[t]);
        log.force(row.number);
        close(t);
        return row.number;
    }

    public int abort(int t) throws IllegalArgumentException, IllegalStateException {
        checkPlace(t);
        checkOpen(t);
        int undone = rollBack(serialAt[t]);
        close(t);
        return undone;
    }

    public int settle() {
        int settled = 0;
        for (int i = 0; i < KEYS; i++) {
            int loser = locks.leastLoserAbove(NOBODY);
            if (loser == NOBODY) {
                break;
            }
            rollBack(loser);
            settled++;
        }
        return settled;
    }

    public boolean flush(int page) {
        return isMade(page) && pool.has(page) && writeIfNewer(page);
    }

    public boolean backup(int page) {
        if (!isMade(page)) {
            return false;
        }
        fix(page);
        log.force(pages[page].latest);
        pages[page].backupLsn = pages[page].latest;
        return true;
    }

    public boolean damage(int page) {
        if (!isMade(page) || pages[page].damaged) {
            return false;
        }
        pages[page].damaged = true;
        return true;
    }

    public int crash() {
        log.loseUnforced();
        pool.clear();
        for (int t = 0; t < PLACES; t++) {
            close(t);
        }
        replayLog();
        for (int i = pagesMade; i < MOST_PAGES; i++) {
            pages[i].forgetStored();
        }
        findLosers();
        return locks.countLosers();
    }

    public int page(int page, int what) {
        if (!isMade(page)) {
            return NONE;
        }
        Page p = pages[page];
        switch (what) {
            case 0: return pool.has(page) ? 1 : 0;
            case 1: return p.imageLsn;
            case 2: return p.backupLsn;
            case 3: return p.damaged ? 1 : 0;
            case 4: return p.latest;
            case 5: return p.rows;
            default: return NONE;
        }
    }

    public int show(int page, int i) {
        if (!isMade(page) || i < 0) {
            return NONE;
        }
        Contents contents = pages[page].contents;
        if (i == 0) {
            return contents.branch ? 1 : 0;
        }
        if (i == 1) {
            return contents.size;
        }
        return i < 2 + FULL ? contents.headAt(i - 2) : contents.tailAt(i - 2 - FULL);
    }

    public int count(int what) {
        switch (what) {
            case 0: return pagesMade;
            case 1: return log.size;
            case 2: return log.forced;
            case 3: return reads;
            case 4: return writes;
            case 5: return redone;
            case 6: return repairs;
            case 7: return locks.countLosers();
            case 8: return latestSerial;
            default: return NONE;
        }
    }

    public int record(int n, int what) {
        if (n < 1 || n > log.size) {
            return NONE;
        }
        LogRow row = log.rows[n];
        switch (what) {
            case 0: return row.kind;
            case 1: return row.page;
            case 2: return row.previous;
            case 3: return row.transaction;
            case 4: return row.undoes;
            default: return NONE;
        }
    }

    public int lock(int t, int key) {
        if (!isPlace(t) || !isKey(key) || serialAt[t] == NOBODY) {
            return NONE;
        }
        return locks.held[t][key];
    }

    private static boolean isPlace(int t) {
        return t >= 0 && t < PLACES;
    }

    private static boolean isKey(int key) {
        return key >= 0 && key < KEYS;
    }

    private boolean isMade(int page) {
        return page >= 0 && page < pagesMade;
    }

    private static void checkPlace(int t) {
        if (!isPlace(t)) {
            throw new IllegalArgumentException();
        }
    }

    private static void checkPlaceAndKey(int t, int key) {
        if (!isPlace(t) || !isKey(key)) {
            throw new IllegalArgumentException();
        }
    }

    private void checkOpen(int t) {
        if (serialAt[t] == NOBODY) {
            throw new IllegalStateException();
        }
    }

    /** Counts a call that makes the log grow, and refuses it where the rows could run out. */
    private boolean isWornOut() {
        if (growingCalls == MOST_CALLS) {
            return true;
        }
        growingCalls++;
        return false;
    }

    private void close(int t) {
        serialAt[t] = NOBODY;
        locks.release(t);
    }

    /** Answers how many records were undone. */
    private int rollBack(int serial) {
        int undone = 0;
        for (int n = log.size; n > 0; n--) {
            LogRow row = log.rows[n];
            if (row.transaction != serial || !row.isToUndo()) {
                continue;
            }
            if (row.hadBefore) {
                putValue(serial, row.head, row.before, n);
            } else {
                takeOut(serial, row.head, n);
            }
            undone++;
        }
        log.add(END, NONE, NONE, serial);
        locks.releaseLoser(serial);
        return undone;
    }

    /** Answers how many splits that took. */
    private int putValue(int serial, int key, int value, int undoes) {
        int rowsBefore = log.size;
        int leaf = goDown(key);
        if (pages[leaf].contents.indexOf(key) == NONE) {
            leaf = goDownSplitting(key);
        }
        int splits = (log.size - rowsBefore) / SPLIT_ROWS;
        LogRow row = addChange(SET, leaf, serial, key, undoes);
        row.tail = value;
        enforce(row);
        return splits;
    }

    /** Answers the number of the record OUT, 0 when the key has no entry. */
    private int takeOut(int serial, int key, int undoes) {
        int leaf = goDown(key);
        if (pages[leaf].contents.indexOf(key) == NONE) {
            return 0;
        }
        LogRow row = addChange(OUT, leaf, serial, key, undoes);
        enforce(row);
        return row.number;
    }

    private LogRow addChange(int kind, int leaf, int serial, int key, int undoes) {
        Contents contents = pages[leaf].contents;
        int at = contents.indexOf(key);
        LogRow row = log.add(kind, leaf, pages[leaf].latest, serial);
        row.head = key;
        row.undoes = undoes;
        row.hadBefore = at != NONE;
        row.before = at != NONE ? contents.tails[at] : 0;
        return row;
    }

    private int goDown(int key) {
        int page = ROOT;
        fix(page);
        for (int level = 1; level < MOST_PAGES && pages[page].contents.branch; level++) {
            page = pages[page].contents.childFor(key);
            fix(page);
        }
        return page;
    }

    private int goDownSplitting(int key) {
        int parent = ROOT;
        int page = ROOT;
        for (int level = 0; level < MOST_PAGES; level++) {
            fix(page);
            if (pages[page].contents.size == FULL) {
                page = page == ROOT ? splitRoot(key) : splitBelow(parent, page, key);
                fix(page);
            }
            if (!pages[page].contents.branch) {
                break;
            }
            parent = page;
            page = pages[page].contents.childFor(key);
        }
        return page;
    }

    /** Answers the half which has the key then. */
    private int splitRoot(int key) {
        if (pagesMade + 2 > MOST_PAGES) {
            return ROOT;
        }
        Contents root = pages[ROOT].contents;
        int lower = pagesMade;
        int upper = pagesMade + 1;
        int separator = root.middleKey();
        log.startSplit();
        fixNew(lower);
        LogRow row = log.add(FORMAT, lower, 0, NOBODY);
        row.bringHalf(root, 0);
        enforce(row);
        fixNew(upper);
        row = log.add(FORMAT, upper, 0, NOBODY);
        row.bringHalf(root, HALF);
        enforce(row);
        fix(ROOT);
        row = log.add(FORMAT, ROOT, pages[ROOT].latest, NOBODY);
        row.bringBranch(lower, separator, upper);
        enforce(row);
        return key < separator ? lower : upper;
    }

    /** Answers the half which has the key then. */
    private int splitBelow(int parent, int full, int key) {
        if (pagesMade + 1 > MOST_PAGES) {
            return full;
        }
        Contents contents = pages[full].contents;
        int upper = pagesMade;
        int separator = contents.middleKey();
        log.startSplit();
        fixNew(upper);
        LogRow row = log.add(FORMAT, upper, 0, NOBODY);
        row.bringHalf(contents, HALF);
        enforce(row);
        fix(full);
        enforce(log.add(CUT, full, pages[full].latest, NOBODY));
        fix(parent);
        row = log.add(LINK, parent, pages[parent].latest, NOBODY);
        row.bringChild(separator, upper, full);
        enforce(row);
        return key < separator ? full : upper;
    }

    private void enforce(LogRow row) {
        if (row.page == NONE) {
            return;
        }
        Page page = pages[row.page];
        switch (row.kind) {
            case SET: page.contents.enter(row.head, row.tail); break;
            case OUT: page.contents.drop(row.head); break;
            case FORMAT: page.contents.becomeWhatBrings(row); break;
            case CUT: page.contents.size = HALF; break;
            case LINK: page.contents.link(row.tail, row.head, row.behind); break;
            default: break;
        }
        page.latest = row.number;
        page.rows++;
        pagesMade = Math.max(pagesMade, row.page + 1);
        if (row.undoes != 0) {
            log.rows[row.undoes].undone = true;
        }
    }

    private void fix(int page) {
        writeIfNewer(pool.leavingFor(page));
        if (!pool.has(page)) {
            read(page);
        }
        pool.touch(page);
    }

    private void fixNew(int page) {
        writeIfNewer(pool.leavingFor(page));
        pool.touch(page);
    }

    private void read(int page) {
        Page p = pages[page];
        int lsn = p.imageLsn;
        reads++;
        if (p.damaged) {
            repairs++;
            lsn = Math.max(p.backupLsn, 0);
        }
        int above = 0;
        for (int n = p.latest; n > lsn && above < p.rows; n = log.rows[n].previous) {
            above++;
        }
        redone += above;
    }

    /** Answers whether it was written; NONE is no page, and never is. */
    private boolean writeIfNewer(int page) {
        if (page == NONE || pages[page].latest <= pages[page].imageLsn) {
            return false;
        }
        Page p = pages[page];
        log.force(p.latest);
        p.imageLsn = p.latest;
        p.damaged = false;
        writes++;
        return true;
    }

    /** Makes of the pages what the log that is left tells. */
    private void replayLog() {
        for (int i = 0; i < MOST_PAGES; i++) {
            pages[i].forgetLogged();
        }
        pagesMade = 1;
        for (int n = 1; n <= log.size; n++) {
            log.rows[n].undone = false;
            enforce(log.rows[n]);
        }
    }

    private void findLosers() {
        locks.clearLosers();
        for (int n = 1; n <= log.size; n++) {
            LogRow row = log.rows[n];
            if (row.isChange()) {
                locks.loserOn[row.head] = row.transaction;
            } else if (row.page == NONE) {
                locks.releaseLoser(row.transaction);
            }
        }
    }

    /** The entries of a leaf, or the children of a branch with the separators between them. */
    private static final class Contents {
        boolean branch = false;
        int size = 0;
        /** Keys of entries, or children. */
        final int[] heads = new int[FULL];
        /** Values of entries, or separators. */
        final int[] tails = new int[FULL];

        void becomeEmptyLeaf() {
            branch = false;
            size = 0;
        }

        void becomeWhatBrings(LogRow row) {
            branch = row.branch;
            size = HALF;
            heads[0] = row.head;
            tails[0] = row.tail;
            heads[1] = row.nextHead;
            tails[1] = row.nextTail;
        }

        int headAt(int i) {
            return i >= 0 && i < size ? heads[i] : NONE;
        }

        int tailAt(int i) {
            int tailsHeld = branch ? size - 1 : size;
            return i >= 0 && i < tailsHeld ? tails[i] : NONE;
        }

        int indexOf(int head) {
            for (int i = 0; i < size; i++) {
                if (heads[i] == head) {
                    return i;
                }
            }
            return NONE;
        }

        int childFor(int key) {
            int at = 0;
            while (at < size - 1 && tails[at] <= key) {
                at++;
            }
            return heads[at];
        }

        int middleKey() {
            return branch ? tails[HALF - 1] : heads[HALF];
        }

        void enter(int key, int value) {
            int at = 0;
            while (at < size && heads[at] < key) {
                at++;
            }
            if (at < size && heads[at] == key) {
                tails[at] = value;
            } else if (size < FULL) {
                shiftUp(heads, at);
                shiftUp(tails, at);
                heads[at] = key;
                tails[at] = value;
                size++;
            }
        }

        void drop(int key) {
            int at = indexOf(key);
            if (at == NONE) {
                return;
            }
            size--;
            for (int i = at; i < size; i++) {
                heads[i] = heads[i + 1];
                tails[i] = tails[i + 1];
            }
        }

        void link(int separator, int child, int behind) {
            int at = indexOf(behind);
            if (at == NONE || size == FULL) {
                return;
            }
            shiftUp(heads, at + 1);
            shiftUp(tails, at);
            heads[at + 1] = child;
            tails[at] = separator;
            size++;
        }

        private static void shiftUp(int[] row, int from) {
            for (int i = FULL - 1; i > from; i--) {
                row[i] = row[i - 1];
            }
        }
    }

    private static final class Page {
        final Contents contents = new Contents();
        int latest = 0;
        int rows = 0;
        int imageLsn = 0;
        boolean damaged = false;
        int backupLsn = NONE;

        void forgetLogged() {
            contents.becomeEmptyLeaf();
            latest = 0;
            rows = 0;
        }

        void forgetStored() {
            imageLsn = 0;
            damaged = false;
            backupLsn = NONE;
        }
    }

    /** A record of the log. */
    private static final class LogRow {
        int number;
        int kind;
        int page;
        int previous;
        int transaction;
        int undoes;
        boolean undone;
        /** Up to which the log is forced, if it is forced up to this one. */
        int last;
        /** What it brings: the key and value of an entry, or a child and a separator. */
        int head;
        int tail;
        /** FORMAT brings a second pair, and says which kind of page becomes of both. */
        int nextHead;
        int nextTail;
        boolean branch;
        /** The child behind which LINK brings another. */
        int behind;
        /** What an entry was before SET or OUT. */
        boolean hadBefore;
        int before;

        void bringHalf(Contents full, int from) {
            if (from < 0 || from > FULL - HALF) {
                return;
            }
            branch = full.branch;
            head = full.heads[from];
            tail = full.tails[from];
            nextHead = full.heads[from + 1];
            nextTail = full.tails[from + 1];
        }

        void bringBranch(int lower, int separator, int upper) {
            branch = true;
            head = lower;
            tail = separator;
            nextHead = upper;
        }

        void bringChild(int separator, int child, int behindChild) {
            head = child;
            tail = separator;
            behind = behindChild;
        }

        boolean isChange() {
            return kind == SET || kind == OUT;
        }

        boolean isToUndo() {
            return isChange() && undoes == 0 && !undone;
        }
    }

    private static final class Log {
        /** From 1 on, as the records are numbered; made when first needed, so that up to size none is null. */
        final LogRow[] rows = new LogRow[MOST_ROWS + 1];
        int size = 0;
        int forced = 0;
        /** The last record of the latest split: all that are added up to it belong to that split. */
        int splitLast = 0;

        LogRow add(int kind, int page, int previous, int transaction) {
            if (size < MOST_ROWS) {
                size++;
            }
            if (rows[size] == null) {
                rows[size] = new LogRow();
            }
            LogRow row = rows[size];
            row.number = size;
            row.kind = kind;
            row.page = page;
            row.previous = previous;
            row.transaction = transaction;
            row.undoes = 0;
            row.undone = false;
            row.last = size < splitLast ? splitLast : size;
            return row;
        }

        void startSplit() {
            splitLast = size + SPLIT_ROWS;
        }

        void force(int n) {
            if (n > 0 && n <= size && rows[n].last > forced) {
                forced = rows[n].last;
            }
        }

        void loseUnforced() {
            size = forced;
            splitLast = 0;
        }
    }

    /** The pages of the pool, from the one fixed least lately to the latest. */
    private static final class Pool {
        final int[] order = new int[POOL_PAGES];
        int size = 0;

        boolean has(int page) {
            return indexOf(page) != NONE;
        }

        private int indexOf(int page) {
            for (int i = 0; i < size; i++) {
                if (order[i] == page) {
                    return i;
                }
            }
            return NONE;
        }

        /** The page that leaves when this one is fixed, NONE when none has to. */
        int leavingFor(int page) {
            return size < POOL_PAGES || indexOf(page) != NONE ? NONE : order[0];
        }

        void touch(int page) {
            int at = indexOf(page);
            if (at != NONE) {
                dropAt(at);
            } else if (size == POOL_PAGES) {
                dropAt(0);
            }
            order[size] = page;
            size++;
        }

        private void dropAt(int at) {
            size--;
            for (int i = at; i < size; i++) {
                order[i] = order[i + 1];
            }
        }

        void clear() {
            size = 0;
        }
    }

    private static final class Locks {
        final int[][] held = new int[PLACES][KEYS];
        /** The loser that has the own lock on each key: two never have the same. */
        final int[] loserOn = new int[KEYS];

        void takeShared(int place, int key) {
            if (held[place][key] != 0) {
                return;
            }
            if (othersHold(place, key, OWN)) {
                throw new IllegalStateException();
            }
            held[place][key] = SHARED;
        }

        void takeOwn(int place, int key) {
            if (othersHold(place, key, SHARED)) {
                throw new IllegalStateException();
            }
            held[place][key] = OWN;
        }

        private boolean othersHold(int place, int key, int least) {
            for (int other = 0; other < PLACES; other++) {
                if (other != place && held[other][key] >= least) {
                    return true;
                }
            }
            return false;
        }

        void release(int place) {
            for (int key = 0; key < KEYS; key++) {
                held[place][key] = 0;
            }
        }

        void clearLosers() {
            for (int key = 0; key < KEYS; key++) {
                loserOn[key] = NOBODY;
            }
        }

        void releaseLoser(int serial) {
            for (int key = 0; key < KEYS; key++) {
                if (loserOn[key] == serial) {
                    loserOn[key] = NOBODY;
                }
            }
        }

        int leastLoserAbove(int serial) {
            int least = NOBODY;
            for (int key = 0; key < KEYS; key++) {
                int loser = loserOn[key];
                if (loser > serial && (least == NOBODY || loser < least)) {
                    least = loser;
                }
            }
            return least;
        }

        int countLosers() {
            int found = 0;
            int loser = leastLoserAbove(NOBODY);
            while (found < KEYS && loser != NOBODY) {
                found++;
                loser = leastLoserAbove(loser);
            }
            return found;
        }
    }
}

import java.util.ArrayList;
import java.util.HashMap;
import java.util.HashSet;
import java.util.LinkedHashMap;
import java.util.List;
import java.util.Map;
import java.util.NoSuchElementException;
import java.util.Set;
import java.util.TreeMap;
import java.util.TreeSet;

/**
 * The document once more, word by word and without regard to cost: images and backups are held as
 * contents, a page is read by copying one of them and redoing its records, and what can be told
 * from the log is searched in the log every time.
 */
final class Model {
    enum Kind { SET, OUT, FORMAT, CUT, LINK, COMMIT, END }

    static final class Leafage {
        boolean branch = false;
        TreeMap<Integer, Integer> entries = new TreeMap<>();
        List<Integer> children = new ArrayList<>();
        List<Integer> separators = new ArrayList<>();
        int lsn = 0;

        Leafage copy() {
            Leafage c = new Leafage();
            c.branch = branch;
            c.entries = new TreeMap<>(entries);
            c.children = new ArrayList<>(children);
            c.separators = new ArrayList<>(separators);
            c.lsn = lsn;
            return c;
        }

        int size() {
            return branch ? children.size() : entries.size();
        }
    }

    static final class Rec {
        Kind kind;
        int page = -1;
        int serial = 0;
        int key;
        int value;
        Integer before;
        int undoes = 0;
        Leafage formatted;
        int behind;
        int split = 0;
    }

    static final class Tx {
        int serial;
        Map<Integer, Integer> locks = new HashMap<>();
    }

    final List<Rec> log = new ArrayList<>();
    final LinkedHashMap<Integer, Leafage> pool = new LinkedHashMap<>();
    final Map<Integer, Leafage> images = new HashMap<>();
    final Map<Integer, Leafage> backups = new HashMap<>();
    final Set<Integer> damaged = new HashSet<>();
    final Tx[] places = new Tx[4];
    final TreeMap<Integer, Set<Integer>> losers = new TreeMap<>();
    int pages = 1;
    int forced = 0;
    int serials = 0;
    int splits = 0;
    int splitNow = 0;
    int reads = 0;
    int writes = 0;
    int redone = 0;
    int repairs = 0;

    int begin(int t) {
        place(t);
        if (places[t] != null) {
            throw new IllegalStateException();
        }
        places[t] = new Tx();
        places[t].serial = ++serials;
        return serials;
    }

    int get(int t, int key) {
        Tx tx = wanting(t, key);
        if (!tx.locks.containsKey(key)) {
            meetLosers(key);
            for (Tx other : places) {
                if (other != null && other != tx && other.locks.getOrDefault(key, 0) == 2) {
                    throw new IllegalStateException();
                }
            }
            tx.locks.put(key, 1);
        }
        Integer v = pool.get(down(key)).entries.get(key);
        if (v == null) {
            throw new NoSuchElementException();
        }
        return v;
    }

    int put(int t, int key, int v) {
        Tx tx = wanting(t, key);
        own(tx, key);
        return putting(tx.serial, key, v, 0);
    }

    int remove(int t, int key) {
        Tx tx = wanting(t, key);
        own(tx, key);
        Integer was = takingOut(tx.serial, key, 0);
        if (was == null) {
            throw new NoSuchElementException();
        }
        return was;
    }

    int commit(int t) {
        place(t);
        open(t);
        Rec r = new Rec();
        r.kind = Kind.COMMIT;
        r.serial = places[t].serial;
        log.add(r);
        force(log.size());
        places[t] = null;
        return log.size();
    }

    int abort(int t) {
        place(t);
        open(t);
        int n = rollBack(places[t].serial);
        places[t] = null;
        return n;
    }

    int settle() {
        int n = losers.size();
        while (!losers.isEmpty()) {
            rollBack(losers.firstKey());
        }
        return n;
    }

    boolean flush(int page) {
        return pool.containsKey(page) && written(page);
    }

    boolean backup(int page) {
        if (page < 0 || page >= pages) {
            return false;
        }
        fix(page);
        force(pool.get(page).lsn);
        backups.put(page, pool.get(page).copy());
        return true;
    }

    boolean damage(int page) {
        return page >= 0 && page < pages && damaged.add(page);
    }

    int crash() {
        while (log.size() > forced) {
            log.remove(log.size() - 1);
        }
        pool.clear();
        for (int t = 0; t < 4; t++) {
            places[t] = null;
        }
        Set<Integer> named = new TreeSet<>();
        Set<Integer> ended = new HashSet<>();
        losers.clear();
        for (Rec r : log) {
            if (r.page >= 0) {
                named.add(r.page);
            }
            if (r.kind == Kind.COMMIT || r.kind == Kind.END) {
                ended.add(r.serial);
            }
        }
        while (pages > 1 && !named.contains(pages - 1)) {
            pages--;
            images.remove(pages);
            damaged.remove(pages);
        }
        for (Rec r : log) {
            if ((r.kind == Kind.SET || r.kind == Kind.OUT) && !ended.contains(r.serial)) {
                losers.computeIfAbsent(r.serial, s -> new HashSet<>()).add(r.key);
            }
        }
        return losers.size();
    }

    int page(int page, int what) {
        if (page < 0 || page >= pages) {
            return -1;
        }
        switch (what) {
            case 0: return pool.containsKey(page) ? 1 : 0;
            case 1: return image(page).lsn;
            case 2: return backups.containsKey(page) ? backups.get(page).lsn : -1;
            case 3: return damaged.contains(page) ? 1 : 0;
            case 4: return before(page, log.size() + 1);
            case 5: return (int) log.stream().filter(r -> r.page == page).count();
            default: return -1;
        }
    }

    int show(int page, int i) {
        if (page < 0 || page >= pages) {
            return -1;
        }
        Leafage p = new Leafage();
        redo(p, page);
        if (pool.containsKey(page) && !same(p, pool.get(page))) {
            throw new AssertionError("a page of the pool is not what the log says");
        }
        if (i == 0) {
            return p.branch ? 1 : 0;
        }
        if (i == 1) {
            return p.size();
        }
        List<Integer> heads = p.branch ? p.children : new ArrayList<>(p.entries.keySet());
        List<Integer> tails = p.branch ? p.separators : new ArrayList<>(p.entries.values());
        if (i >= 2 && i <= 5 && i - 2 < heads.size()) {
            return heads.get(i - 2);
        }
        if (i >= 6 && i <= 9 && i - 6 < tails.size()) {
            return tails.get(i - 6);
        }
        return -1;
    }

    int count(int what) {
        int[] all = {pages, log.size(), forced, reads, writes, redone, repairs, losers.size(), serials};
        return what < 0 || what > 8 ? -1 : all[what];
    }

    int record(int n, int what) {
        if (n < 1 || n > log.size()) {
            return -1;
        }
        Rec r = log.get(n - 1);
        boolean alone = r.kind == Kind.COMMIT || r.kind == Kind.END;
        switch (what) {
            case 0: return r.kind.ordinal() + 1;
            case 1: return alone ? -1 : r.page;
            case 2: return alone ? -1 : before(r.page, n);
            case 3: return r.serial;
            case 4: return r.undoes;
            default: return -1;
        }
    }

    int lock(int t, int key) {
        if (t < 0 || t > 3 || key < 0 || key > 39 || places[t] == null) {
            return -1;
        }
        return places[t].locks.getOrDefault(key, 0);
    }

    private static boolean same(Leafage a, Leafage b) {
        return a.branch == b.branch && a.lsn == b.lsn && a.entries.equals(b.entries)
            && a.children.equals(b.children) && a.separators.equals(b.separators);
    }

    private void place(int t) {
        if (t < 0 || t > 3) {
            throw new IllegalArgumentException();
        }
    }

    private void open(int t) {
        if (places[t] == null) {
            throw new IllegalStateException();
        }
    }

    private Tx wanting(int t, int key) {
        place(t);
        if (key < 0 || key > 39) {
            throw new IllegalArgumentException();
        }
        open(t);
        return places[t];
    }

    private void own(Tx tx, int key) {
        if (tx.locks.getOrDefault(key, 0) == 2) {
            return;
        }
        meetLosers(key);
        for (Tx other : places) {
            if (other != null && other != tx && other.locks.containsKey(key)) {
                throw new IllegalStateException();
            }
        }
        tx.locks.put(key, 2);
    }

    private void meetLosers(int key) {
        for (int serial : new ArrayList<>(losers.keySet())) {
            if (losers.get(serial).contains(key)) {
                rollBack(serial);
            }
        }
    }

    private int rollBack(int serial) {
        Set<Integer> undone = new HashSet<>();
        for (Rec r : log) {
            undone.add(r.undoes);
        }
        int n = 0;
        for (int i = log.size(); i >= 1; i--) {
            Rec r = log.get(i - 1);
            boolean change = r.kind == Kind.SET || r.kind == Kind.OUT;
            if (!change || r.serial != serial || r.undoes != 0 || undone.contains(i)) {
                continue;
            }
            n++;
            if (r.before != null) {
                putting(serial, r.key, r.before, i);
            } else {
                takingOut(serial, r.key, i);
            }
        }
        Rec end = new Rec();
        end.kind = Kind.END;
        end.serial = serial;
        log.add(end);
        losers.remove(serial);
        return n;
    }

    private int before(int page, int n) {
        for (int i = n - 1; i >= 1; i--) {
            if (log.get(i - 1).page == page) {
                return i;
            }
        }
        return 0;
    }

    private Leafage image(int page) {
        return images.getOrDefault(page, new Leafage());
    }

    private void force(int n) {
        if (n == 0) {
            return;
        }
        int split = log.get(n - 1).split;
        int target = n;
        while (split != 0 && target < log.size() && log.get(target).split == split) {
            target++;
        }
        if (split != 0 && split == splitNow) {
            throw new AssertionError("forced amid a split");
        }
        forced = Math.max(forced, target);
    }

    private boolean written(int page) {
        Leafage p = pool.get(page);
        if (p.lsn <= image(page).lsn) {
            return false;
        }
        force(p.lsn);
        images.put(page, p.copy());
        damaged.remove(page);
        writes++;
        return true;
    }

    private void room() {
        if (pool.size() == 6) {
            int leaving = pool.keySet().iterator().next();
            written(leaving);
            pool.remove(leaving);
        }
    }

    private Leafage fix(int page) {
        Leafage p = pool.remove(page);
        if (p == null) {
            room();
            reads++;
            p = image(page).copy();
            if (damaged.contains(page)) {
                repairs++;
                p = backups.containsKey(page) ? backups.get(page).copy() : new Leafage();
            }
            redone += redo(p, page);
        }
        pool.put(page, p);
        return p;
    }

    private int redo(Leafage p, int page) {
        int n = 0;
        for (int i = p.lsn + 1; i <= log.size(); i++) {
            if (log.get(i - 1).page == page) {
                inForce(p, log.get(i - 1), i);
                n++;
            }
        }
        return n;
    }

    private void inForce(Leafage p, Rec r, int n) {
        switch (r.kind) {
            case SET: p.entries.put(r.key, r.value); break;
            case OUT: p.entries.remove(r.key); break;
            case FORMAT: {
                Leafage f = r.formatted.copy();
                p.branch = f.branch;
                p.entries = f.entries;
                p.children = f.children;
                p.separators = f.separators;
                break;
            }
            case CUT:
                if (p.branch) {
                    p.children = new ArrayList<>(p.children.subList(0, 2));
                    p.separators = new ArrayList<>(p.separators.subList(0, 1));
                } else {
                    while (p.entries.size() > 2) {
                        p.entries.pollLastEntry();
                    }
                }
                break;
            case LINK: {
                int at = p.children.indexOf(r.behind);
                p.children.add(at + 1, r.value);
                p.separators.add(at, r.key);
                break;
            }
            default: throw new AssertionError("of no page");
        }
        p.lsn = n;
    }

    private void append(Rec r) {
        log.add(r);
        inForce(fix(r.page), r, log.size());
    }

    private void appendNew(Rec r) {
        log.add(r);
        room();
        Leafage p = new Leafage();
        pool.put(r.page, p);
        inForce(p, r, log.size());
    }

    private int down(int key) {
        int page = 0;
        Leafage p = fix(page);
        while (p.branch) {
            page = child(p, key);
            p = fix(page);
        }
        return page;
    }

    private int child(Leafage p, int key) {
        return p.children.get((int) p.separators.stream().filter(s -> s <= key).count());
    }

    private int putting(int serial, int key, int value, int undoes) {
        int leaf = down(key);
        int taken = 0;
        if (!pool.get(leaf).entries.containsKey(key)) {
            int parent = -1;
            int page = 0;
            while (true) {
                Leafage p = fix(page);
                if (p.size() == 4) {
                    taken++;
                    int from = page;
                    split(page, parent);
                    int upperParent = from == 0 ? 0 : parent;
                    page = child(pool.get(upperParent), key);
                    p = fix(page);
                }
                if (!p.branch) {
                    leaf = page;
                    break;
                }
                parent = page;
                page = child(p, key);
            }
        }
        Rec r = new Rec();
        r.kind = Kind.SET;
        r.page = leaf;
        r.serial = serial;
        r.key = key;
        r.value = value;
        r.before = pool.get(leaf).entries.get(key);
        r.undoes = undoes;
        append(r);
        return taken;
    }

    private Integer takingOut(int serial, int key, int undoes) {
        int leaf = down(key);
        Integer was = pool.get(leaf).entries.get(key);
        if (was == null) {
            if (undoes != 0) {
                throw new AssertionError("nothing to take out");
            }
            return null;
        }
        Rec r = new Rec();
        r.kind = Kind.OUT;
        r.page = leaf;
        r.serial = serial;
        r.key = key;
        r.before = was;
        r.undoes = undoes;
        append(r);
        return was;
    }

    private Leafage half(Leafage p, boolean upper) {
        Leafage h = new Leafage();
        h.branch = p.branch;
        int from = upper ? 2 : 0;
        if (p.branch) {
            h.children.addAll(p.children.subList(from, from + 2));
            h.separators.add(p.separators.get(from));
        } else {
            List<Integer> keys = new ArrayList<>(p.entries.keySet());
            for (int key : keys.subList(from, from + 2)) {
                h.entries.put(key, p.entries.get(key));
            }
        }
        return h;
    }

    private Rec ofSplit(Kind kind, int page) {
        Rec r = new Rec();
        r.kind = kind;
        r.page = page;
        r.split = splitNow;
        return r;
    }

    private void split(int page, int parent) {
        splitNow = ++splits;
        Leafage full = pool.get(page).copy();
        int s = full.branch ? full.separators.get(1) : new ArrayList<>(full.entries.keySet()).get(2);
        if (page == 0) {
            Rec lower = ofSplit(Kind.FORMAT, pages++);
            lower.formatted = half(full, false);
            appendNew(lower);
            Rec upper = ofSplit(Kind.FORMAT, pages++);
            upper.formatted = half(full, true);
            appendNew(upper);
            Rec root = ofSplit(Kind.FORMAT, 0);
            root.formatted = new Leafage();
            root.formatted.branch = true;
            root.formatted.children.add(lower.page);
            root.formatted.children.add(upper.page);
            root.formatted.separators.add(s);
            append(root);
        } else {
            Rec upper = ofSplit(Kind.FORMAT, pages++);
            upper.formatted = half(full, true);
            appendNew(upper);
            append(ofSplit(Kind.CUT, page));
            Rec link = ofSplit(Kind.LINK, parent);
            link.key = s;
            link.value = upper.page;
            link.behind = page;
            append(link);
        }
        splitNow = 0;
    }
}

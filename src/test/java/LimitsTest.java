import java.lang.management.ManagementFactory;

/** Runs that write as much as 512 calls can, and calls beyond these: no stray exception, little memory. */
public final class LimitsTest {
    private static final int CALLS = 512;
    private static final long MOST_BYTES = 400_000;

    private static final Checks CHECKS = new Checks();

    public static void main(String[] args) {
        allPutThenUndone();
        manyCrashesAndSettlings();
        mostPages();
        mostLosers();
        theLastCall();
        beyondTheLastCall();
        littleMemory();
        CHECKS.close("LimitsTest");
    }

    private static void allPutThenUndone() {
        PageKeeper keeper = new PageKeeper();
        keeper.begin(0);
        int splits = 0;
        for (int i = 0; i < CALLS - 4; i++) {
            splits += keeper.put(0, i * 7 % 40, i);
        }
        int written = CALLS - 4 + 3 * splits;
        CHECKS.due("records of all puts", written, () -> keeper.count(1));
        CHECKS.due("all undone", CALLS - 4, () -> keeper.abort(0));
        CHECKS.due("records of all", written + CALLS - 4 + 1, () -> keeper.count(1));
    }

    private static void manyCrashesAndSettlings() {
        PageKeeper keeper = new PageKeeper();
        keeper.begin(0);
        for (int i = 0; i < 250; i++) {
            keeper.put(0, i % 4, i);
        }
        keeper.flush(0);
        for (int i = 0; i < 130; i++) {
            CHECKS.due("crash " + i, 1, keeper::crash);
            CHECKS.due("settle " + i, 1, keeper::settle);
        }
        CHECKS.due("records at last", 250 + 250 + 1, () -> keeper.count(1));
    }

    /** Rising keys leave two entries in each leaf but the last: no order makes more leaves of 40 keys. */
    private static void mostPages() {
        PageKeeper keeper = new PageKeeper();
        keeper.begin(0);
        for (int key = 0; key < 40; key++) {
            keeper.put(0, key, key);
        }
        int leaves = 0;
        int entries = 0;
        for (int page = 0; page < keeper.count(0); page++) {
            if (keeper.show(page, 0) == 0) {
                leaves++;
                entries += keeper.show(page, 1);
            }
        }
        // 30 splits, 4 of them of the root, which makes two pages.
        CHECKS.due("pages of rising keys", 1 + 30 + 4, () -> keeper.count(0));
        CHECKS.due("records of rising keys", 40 + 3 * 30, () -> keeper.count(1));
        String told = leaves + " leaves with " + entries + " entries";
        CHECKS.due("rising keys", "19 leaves with 40 entries", () -> told);
        for (int key = 0; key < 40; key++) {
            int wanted = key;
            CHECKS.due("get " + key, key, () -> keeper.get(0, wanted));
        }
        CHECKS.due("all undone", 40, () -> keeper.abort(0));
    }

    /** Three losers and a commit that forces their records, time after time: one loser for each of the 40 keys. */
    private static void mostLosers() {
        PageKeeper keeper = new PageKeeper();
        for (int key = 0; key < 40; key += 3) {
            for (int t = 3; t >= 0; t--) {
                keeper.begin(t);
            }
            for (int t = 0; t < 3 && key + t < 40; t++) {
                keeper.put(t, key + t, 1);
            }
            keeper.commit(3);
            int losers = Math.min(key + 3, 40);
            CHECKS.due("losers of " + losers + " keys", losers, keeper::crash);
        }
        int written = keeper.count(1);
        CHECKS.due("all losers", 40, () -> keeper.count(7));
        CHECKS.due("all losers settled", 40, keeper::settle);
        CHECKS.due("no loser left", 0, () -> keeper.count(7));
        CHECKS.due("records of 40 roll-backs", written + 80, () -> keeper.count(1));
        int serial = 0;
        for (int n = written + 1; n < written + 80; n += 2) {
            int undoing = n;
            int later = keeper.record(n, 3);
            boolean rises = later > serial;
            serial = later;
            CHECKS.due("record " + n + " is OUT", 2, () -> keeper.record(undoing, 0));
            CHECKS.due("record " + (n + 1) + " is END", 7, () -> keeper.record(undoing + 1, 0));
            CHECKS.due("serial number " + later + " comes behind lower ones", true, () -> String.valueOf(rises));
        }
    }

    private static Run restOfPuts(String name, int last) {
        Run r = new Run(CHECKS, name).begin(0, 1).putAll(0, 1, 2, 3, 4);
        for (int i = r.calls(); i < CALLS - 1; i++) {
            r.put(0, 1, i == CALLS - 2 ? last : i, 0);
        }
        return r;
    }

    /** The 512th call is promised still, whichever it is. */
    private static void theLastCall() {
        restOfPuts("the 512th call: put", 0).put(0, 1, 5, 0);
        restOfPuts("the 512th call: put that splits", 0).put(0, 5, 5, 1);
        restOfPuts("the 512th call: get", 77).get(0, 1, 77);
        restOfPuts("the 512th call: remove", 78).remove(0, 1, 78);
        restOfPuts("the 512th call: remove of none", 0).remove(0, 5, Checks.ELEMENT);
        restOfPuts("the 512th call: commit", 0).commit(0, 511);
        restOfPuts("the 512th call: abort", 0).abort(0, 510);
        restOfPuts("the 512th call: begin", 0).begin(3, 2);
        restOfPuts("the 512th call: begin, refused", 0).begin(0, Checks.STATE);
        restOfPuts("the 512th call: settle", 0).settle(0);
        restOfPuts("the 512th call: flush", 0).flush(0, 1);
        restOfPuts("the 512th call: backup", 0).backup(0, 1);
        restOfPuts("the 512th call: damage", 0).damage(0, 1);
        restOfPuts("the 512th call: crash", 0).crash(0);
        restOfPuts("the 512th call: page", 0).page(0, 5, 510);
        restOfPuts("the 512th call: show", 79).show(0, 6, 79);
        restOfPuts("the 512th call: count", 0).count(1, 510);
        restOfPuts("the 512th call: record", 0).recordAll(510, 1);
        restOfPuts("the 512th call: record that is not there", 0).record(511, 0, PageKeeper.NONE);
        restOfPuts("the 512th call: lock", 0).lock(0, 1, 2);

        Run serials = new Run(CHECKS, "the 512th call: as many transactions as there can be");
        for (int n = 1; n <= CALLS / 2; n++) {
            serials.begin(n % 4, n).commit(n % 4, n);
        }
        Run redone = new Run(CHECKS, "the 512th call: as many records redone as there can be").begin(0, 1);
        for (int i = 0; i < CALLS - 6; i++) {
            redone.put(0, i % 4, i, 0);
        }
        redone.commit(0, 507).damage(0, 1).crash(0).backup(0, 1).count(5, 506);
    }

    /** What these answer is free, but they end, and throw nothing else than the face names. */
    private static void beyondTheLastCall() {
        PageKeeper keeper = new PageKeeper();
        for (int i = 0; i < 20_000; i++) {
            int n = i;
            int t = i % 4;
            int key = i * 11 % 40;
            int page = i % 45 - 2;
            String[] told = {
                Checks.told(() -> keeper.begin(t)),
                Checks.told(() -> keeper.put(t, key, 1)),
                Checks.told(() -> keeper.get(t, (key + 1) % 40)),
                Checks.told(() -> keeper.remove(t, (key + 2) % 40)),
                Checks.told(() -> keeper.flush(page)),
                Checks.told(() -> keeper.backup(page)),
                Checks.told(() -> keeper.damage(page)),
                Checks.told(() -> page % 9 == 0 ? keeper.abort(t) : page % 9 == 1 ? keeper.commit(t) : 0),
                Checks.told(() -> page % 13 == 0 ? keeper.crash() : page % 13 == 1 ? keeper.settle() : 0),
                Checks.told(() -> keeper.show(page, 1) + keeper.page(page, 4) + keeper.record(n, 1) + keeper.lock(t, key)),
            };
            for (String answer : told) {
                boolean fine = !answer.startsWith("throws.") || answer.equals(Checks.STATE) || answer.equals(Checks.ELEMENT);
                CHECKS.due("call " + i + " told " + answer, true, () -> String.valueOf(fine));
            }
        }
    }

    private static void littleMemory() {
        allocated();
        long before = allocated();
        PageKeeper keeper = new PageKeeper();
        keeper.begin(0);
        for (int i = 0; i < CALLS - 2; i++) {
            keeper.put(0, i * 7 % 40, i);
        }
        keeper.abort(0);
        long taken = allocated() - before;
        CHECKS.due("bytes taken (" + taken + ") are few", true, () -> String.valueOf(taken < MOST_BYTES));
    }

    private static long allocated() {
        return ((com.sun.management.ThreadMXBean) ManagementFactory.getThreadMXBean()).getThreadAllocatedBytes(Thread.currentThread().getId());
    }
}

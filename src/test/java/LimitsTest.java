import java.lang.management.ManagementFactory;

/** Runs that write as much as 512 calls can, and calls beyond these: no stray exception, little memory. */
public final class LimitsTest {
    private static final int CALLS = 512;
    private static final long MOST_BYTES = 400_000;

    private static final Checks CHECKS = new Checks();

    public static void main(String[] args) {
        allPutThenUndone();
        manyCrashesAndSettlings();
        mostPages();
        beyondTheLastCall();
        littleMemory();
        CHECKS.close("LimitsTest");
    }

    private static void allPutThenUndone() {
        PageKeeper keeper = new PageKeeper();
        keeper.begin(0);
        int splits = 0;
        for (int i = 0; i < CALLS - 4; i++) {
            splits += keeper.put(0, i * 7 % 40, i);
        }
        int written = CALLS - 4 + 3 * splits;
        CHECKS.due("records of all puts", written, () -> keeper.count(1));
        CHECKS.due("all undone", CALLS - 4, () -> keeper.abort(0));
        CHECKS.due("records of all", written + CALLS - 4 + 1, () -> keeper.count(1));
    }

    private static void manyCrashesAndSettlings() {
        PageKeeper keeper = new PageKeeper();
        keeper.begin(0);
        for (int i = 0; i < 250; i++) {
            keeper.put(0, i % 4, i);
        }
        keeper.flush(0);
        for (int i = 0; i < 130; i++) {
            CHECKS.due("crash " + i, 1, keeper::crash);
            CHECKS.due("settle " + i, 1, keeper::settle);
        }
        CHECKS.due("records at last", 250 + 250 + 1, () -> keeper.count(1));
    }

    /** Rising keys leave two entries in each leaf but the last: no order makes more leaves of 40 keys. */
    private static void mostPages() {
        PageKeeper keeper = new PageKeeper();
        keeper.begin(0);
        for (int key = 0; key < 40; key++) {
            keeper.put(0, key, key);
        }
        int leaves = 0;
        int entries = 0;
        for (int page = 0; page < keeper.count(0); page++) {
            if (keeper.show(page, 0) == 0) {
                leaves++;
                entries += keeper.show(page, 1);
            }
        }
        String told = leaves + " leaves with " + entries + " entries";
        CHECKS.due("rising keys", "19 leaves with 40 entries", () -> told);
        for (int key = 0; key < 40; key++) {
            int wanted = key;
            CHECKS.due("get " + key, key, () -> keeper.get(0, wanted));
        }
        CHECKS.due("all undone", 40, () -> keeper.abort(0));
    }

    /** What these answer is free, but they end, and throw nothing else than the face names. */
    private static void beyondTheLastCall() {
        PageKeeper keeper = new PageKeeper();
        for (int i = 0; i < 20_000; i++) {
            int n = i;
            int t = i % 4;
            int key = i * 11 % 40;
            int page = i % 45 - 2;
            String[] told = {
                Checks.told(() -> keeper.begin(t)),
                Checks.told(() -> keeper.put(t, key, 1)),
                Checks.told(() -> keeper.get(t, (key + 1) % 40)),
                Checks.told(() -> keeper.remove(t, (key + 2) % 40)),
                Checks.told(() -> keeper.flush(page)),
                Checks.told(() -> keeper.backup(page)),
                Checks.told(() -> keeper.damage(page)),
                Checks.told(() -> page % 9 == 0 ? keeper.abort(t) : page % 9 == 1 ? keeper.commit(t) : 0),
                Checks.told(() -> page % 13 == 0 ? keeper.crash() : page % 13 == 1 ? keeper.settle() : 0),
                Checks.told(() -> keeper.show(page, 1) + keeper.page(page, 4) + keeper.record(n, 1) + keeper.lock(t, key)),
            };
            for (String answer : told) {
                boolean fine = !answer.startsWith("throws.") || answer.equals(Checks.STATE) || answer.equals(Checks.ELEMENT);
                CHECKS.due("call " + i + " told " + answer, true, () -> String.valueOf(fine));
            }
        }
    }

    private static void littleMemory() {
        allocated();
        long before = allocated();
        PageKeeper keeper = new PageKeeper();
        keeper.begin(0);
        for (int i = 0; i < CALLS - 2; i++) {
            keeper.put(0, i * 7 % 40, i);
        }
        keeper.abort(0);
        long taken = allocated() - before;
        CHECKS.due("bytes taken (" + taken + ") are few", true, () -> String.valueOf(taken < MOST_BYTES));
    }

    private static long allocated() {
        return ((com.sun.management.ThreadMXBean) ManagementFactory.getThreadMXBean()).getThreadAllocatedBytes(Thread.currentThread().getId());
    }
}

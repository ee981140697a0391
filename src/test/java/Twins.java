/**
 * Two new objects with the same calls, but that one of them gets some more that should change
 * nothing: afterwards no answer may tell the two apart.
 */
final class Twins {
    private static final int PLACES = 4;
    private static final int KEYS = 40;

    private final PageKeeper plain = new PageKeeper();
    private final PageKeeper tried = new PageKeeper();
    private final Checks checks;
    private final String name;
    private int calls = 0;

    interface Step {
        Object on(PageKeeper keeper);
    }

    Twins(Checks checks, String name) {
        this.checks = checks;
        this.name = name;
    }

    /** The same step on both, which answers the same. */
    Twins both(String what, Step step) {
        calls++;
        String want = Checks.told(() -> step.on(plain));
        checks.due(name + ": call " + calls + " of twins, " + what, want, () -> step.on(tried));
        checks.due(name + ": calls of one object, at most", true, () -> String.valueOf(calls <= Run.MOST_CALLS));
        return this;
    }

    /** A step on one of them alone. */
    Twins idle(String what, Object want, Step step) {
        calls++;
        checks.due(name + ": " + what, want, () -> step.on(tried));
        return this;
    }

    /** Every answer of those calls that only look. */
    Twins alike() {
        for (int i = 0; i <= 8; i++) {
            int what = i;
            both("count(" + what + ")", k -> k.count(what));
        }
        int pages = plain.count(0);
        int records = plain.count(1);
        calls += 2;
        for (int p = 0; p < pages; p++) {
            pageAlike(p);
        }
        for (int n = 1; n <= records; n++) {
            recordAlike(n);
        }
        for (int i = 0; i < PLACES * KEYS; i++) {
            int t = i / KEYS;
            int key = i % KEYS;
            both("lock(" + t + ", " + key + ")", k -> k.lock(t, key));
        }
        return this;
    }

    private void pageAlike(int page) {
        for (int i = 0; i <= 5; i++) {
            int what = i;
            both("page(" + page + ", " + what + ")", k -> k.page(page, what));
        }
        for (int i = 0; i <= 9; i++) {
            int at = i;
            both("show(" + page + ", " + at + ")", k -> k.show(page, at));
        }
    }

    private void recordAlike(int n) {
        for (int i = 0; i <= 4; i++) {
            int what = i;
            both("record(" + n + ", " + what + ")", k -> k.record(n, what));
        }
    }

    /** Fixes one page after the other, so that the order in which the pool had its pages comes out. */
    Twins alikeInTheirPool(int pages) {
        for (int p = 0; p < pages; p++) {
            int fixed = p;
            both("backup(" + fixed + ")", k -> k.backup(fixed));
            for (int q = 0; q < pages; q++) {
                int page = q;
                both("page(" + page + ", 0)", k -> k.page(page, 0));
            }
        }
        return this;
    }
}

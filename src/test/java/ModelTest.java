import java.util.Random;

/** Long runs of calls, chosen by fixed seeds, on a PageKeeper and on the model beside it. */
public final class ModelTest {
    private static final int CALLS = 512;
    private static final int RUNS = 3000;

    private final Checks checks = new Checks();
    private final Random random;
    private final PageKeeper keeper = new PageKeeper();
    private final Model model = new Model();
    private final int keys;
    private final int crashes;
    private final int ends;
    private final int peeks;
    private final StringBuilder calls = new StringBuilder();

    private ModelTest(long seed) {
        random = new Random(seed);
        keys = 1 + random.nextInt(40);
        crashes = random.nextInt(5);
        ends = 1 + random.nextInt(12);
        peeks = random.nextInt(60);
    }

    public static void main(String[] args) {
        for (long seed = 1; seed <= RUNS; seed++) {
            ModelTest run = new ModelTest(seed);
            for (int i = 0; i < CALLS && !run.checks.anyWrong(); i++) {
                run.step();
            }
            if (run.checks.anyWrong()) {
                System.out.println("seed " + seed + ", the calls were:" + run.calls);
            }
            if (run.checks.anyWrong() || seed == RUNS) {
                run.checks.close("ModelTest");
            }
        }
    }

    private void step() {
        if (random.nextInt(100) < peeks) {
            peek();
        } else if (random.nextInt(100) < 3) {
            wrongInput();
        } else {
            change();
        }
    }

    private void check(String call, Checks.Call ofKeeper, Checks.Call ofModel) {
        calls.append(' ').append(call);
        checks.due(call, Checks.told(ofModel), ofKeeper);
    }

    private int anyPage() {
        return random.nextInt(model.pages + 1);
    }

    private void change() {
        int t = random.nextInt(4);
        int key = random.nextInt(keys) * 7 % 40;
        int v = random.nextInt(9) - 2;
        if (model.places[t] == null && random.nextInt(8) != 0) {
            check("begin(" + t + ")", () -> keeper.begin(t), () -> model.begin(t));
            return;
        }
        int dice = random.nextInt(100);
        if (dice < 45) {
            check("put(" + t + "," + key + "," + v + ")", () -> keeper.put(t, key, v), () -> model.put(t, key, v));
        } else if (dice < 60) {
            check("get(" + t + "," + key + ")", () -> keeper.get(t, key), () -> model.get(t, key));
        } else if (dice < 75) {
            check("remove(" + t + "," + key + ")", () -> keeper.remove(t, key), () -> model.remove(t, key));
        } else if (dice < 75 + ends / 2) {
            check("commit(" + t + ")", () -> keeper.commit(t), () -> model.commit(t));
        } else if (dice < 75 + ends) {
            check("abort(" + t + ")", () -> keeper.abort(t), () -> model.abort(t));
        } else {
            store();
        }
    }

    private void store() {
        int page = anyPage();
        int dice = random.nextInt(60);
        if (dice < crashes) {
            check("crash()", () -> keeper.crash(), () -> model.crash());
        } else if (dice < 6) {
            check("settle()", () -> keeper.settle(), () -> model.settle());
        } else if (dice < 24) {
            check("flush(" + page + ")", () -> keeper.flush(page), () -> model.flush(page));
        } else if (dice < 40) {
            check("backup(" + page + ")", () -> keeper.backup(page), () -> model.backup(page));
        } else {
            check("damage(" + page + ")", () -> keeper.damage(page), () -> model.damage(page));
        }
    }

    private void peek() {
        int page = anyPage();
        int n = random.nextInt(model.log.size() + 2);
        int t = random.nextInt(4);
        int key = random.nextInt(40);
        int what = random.nextInt(12) - 1;
        switch (random.nextInt(5)) {
            case 0: check("page(" + page + "," + what + ")", () -> keeper.page(page, what), () -> model.page(page, what)); break;
            case 1: check("show(" + page + "," + what + ")", () -> keeper.show(page, what), () -> model.show(page, what)); break;
            case 2: check("count(" + what + ")", () -> keeper.count(what), () -> model.count(what)); break;
            case 3: check("record(" + n + "," + what + ")", () -> keeper.record(n, what), () -> model.record(n, what)); break;
            default: check("lock(" + t + "," + key + ")", () -> keeper.lock(t, key), () -> model.lock(t, key)); break;
        }
    }

    private void wrongInput() {
        int[] odd = {Integer.MIN_VALUE, -2, -1, 4, 5, 40, 41, 1000, Integer.MAX_VALUE};
        int a = odd[random.nextInt(odd.length)];
        int b = random.nextBoolean() ? odd[random.nextInt(odd.length)] : random.nextInt(4);
        switch (random.nextInt(14)) {
            case 0: check("begin(" + a + ")", () -> keeper.begin(a), () -> model.begin(a)); break;
            case 1: check("get(" + a + "," + b + ")", () -> keeper.get(a, b), () -> model.get(a, b)); break;
            case 2: check("get(" + b + "," + a + ")", () -> keeper.get(b, a), () -> model.get(b, a)); break;
            case 3: check("put(" + b + "," + a + ",1)", () -> keeper.put(b, a, 1), () -> model.put(b, a, 1)); break;
            case 4: check("remove(" + b + "," + a + ")", () -> keeper.remove(b, a), () -> model.remove(b, a)); break;
            case 5: check("commit(" + a + ")", () -> keeper.commit(a), () -> model.commit(a)); break;
            case 6: check("abort(" + a + ")", () -> keeper.abort(a), () -> model.abort(a)); break;
            case 7: check("flush(" + a + ")", () -> keeper.flush(a), () -> model.flush(a)); break;
            case 8: check("backup(" + a + ")", () -> keeper.backup(a), () -> model.backup(a)); break;
            case 9: check("damage(" + a + ")", () -> keeper.damage(a), () -> model.damage(a)); break;
            case 10: check("page(" + b + "," + a + ")", () -> keeper.page(b, a), () -> model.page(b, a)); break;
            case 11: check("show(" + b + "," + a + ")", () -> keeper.show(b, a), () -> model.show(b, a)); break;
            case 12: check("record(" + a + "," + b + ")", () -> keeper.record(a, b), () -> model.record(a, b)); break;
            default: check("lock(" + a + "," + b + ")", () -> keeper.lock(a, b), () -> model.lock(a, b)); break;
        }
    }
}

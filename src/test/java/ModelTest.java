/**
 * Runs of 512 calls on fresh objects, each answer compared with Model's. The calls are drawn from a
 * fixed row of numbers, so every run of this test makes the same ones.
 */
public final class ModelTest {
    private static final int RUNS = 400;
    private static final int CALLS = 512;
    private static final Due due = new Due();
    private static long row;

    public static void main(String[] args) {
        for (int run = 0; run < RUNS; run++) {
            row = 77003L * run + 1;
            due.about("run " + run);
            compare(run % 4);
        }
        neverThrows();
        due.end();
    }

    private static int draw(int many) {
        row = row * 6364136223846793005L + 1442695040888963407L;
        return (int) ((row >>> 33) % many);
    }

    /** Mostly from least to most, and at times beside them or far away. */
    private static int around(int least, int most) {
        int odds = draw(60);
        if (odds == 0) {
            return least - 1;
        }
        if (odds == 1) {
            return most + 1;
        }
        if (odds == 2) {
            return Due.WILD[draw(Due.WILD.length)];
        }
        return least + draw(most - least + 1);
    }

    private static int lower() {
        return draw(3) == 0 ? 0 : around(0, 15);
    }

    private static int upper() {
        return draw(3) == 0 ? 15 : around(0, 15);
    }

    /** A revision to ask for: near the present one, any, or none that is there. */
    private static int asked(Model model) {
        int odds = draw(5);
        if (odds == 0) {
            return -1;
        }
        return odds == 1 ? model.revision() + 2 - draw(6) : around(0, model.revision() + 1);
    }

    private static void compare(int style) {
        RevisionedKeys x = new RevisionedKeys();
        Model model = new Model();
        // The styles differ in how soon the store is full, and in how often it forgets.
        int writing = style < 2 ? 70 : 35;
        int forgetting = style % 2 == 0 ? 60 : 8;
        for (int call = 0; call < CALLS; call++) {
            if (draw(100) < writing) {
                write(x, model);
            } else if (draw(200) < forgetting) {
                int r = draw(6) == 0 ? asked(model) : model.revision() - draw(60);
                due.is("compact(" + r + ")", x.compact(r), model.compact(r));
            } else {
                int odds = draw(4);
                if (odds == 0) {
                    ask(x, model);
                } else if (odds == 1) {
                    lease(x, model);
                } else {
                    watch(x, model);
                }
            }
        }
    }

    private static void write(RevisionedKeys x, Model model) {
        int k = around(0, 15);
        int v = draw(1000) - 500;
        int odds = draw(12);
        if (odds < 7) {
            int l = draw(4) == 0 ? -1 : around(-1, 5);
            due.is("put(" + k + ", " + v + ", " + l + ")", x.put(k, v, l), model.put(k, v, l));
        } else if (odds < 10) {
            int set = model.set(k);
            int r = draw(4) == 0 ? asked(model) : Math.max(set, 0);
            due.is("swap(" + k + ", " + r + ", " + v + ")", x.swap(k, r, v), model.swap(k, r, v));
        } else {
            int b = draw(2) == 0 ? k : upper();
            due.is("erase(" + k + ", " + b + ")", x.erase(k, b), model.erase(k, b));
        }
    }

    private static void ask(RevisionedKeys x, Model model) {
        int k = around(0, 15);
        int r = asked(model);
        int a = lower();
        int b = upper();
        int i = around(0, 6);
        String range = "(" + a + ", " + b + ", ";
        switch (draw(9)) {
            case 0 -> due.is("revision()", x.revision(), model.revision());
            case 1 -> due.is("remembered()", x.remembered(), model.remembered());
            case 2 -> due.is("value(" + k + ", " + r + ")", x.value(k, r), model.value(k, r));
            case 3 -> due.is("count" + range + r + ")", x.count(a, b, r), model.count(a, b, r));
            case 4 -> due.is("keyAt" + range + i + ", " + r + ")", x.keyAt(a, b, i, r),
                    model.keyAt(a, b, i, r));
            case 5 -> due.is("made(" + k + ")", x.made(k), model.made(k));
            case 6 -> due.is("set(" + k + ")", x.set(k), model.set(k));
            case 7 -> due.is("version(" + k + ")", x.version(k), model.version(k));
            default -> due.is("leaseOf(" + k + ")", x.leaseOf(k), model.leaseOf(k));
        }
    }

    private static void lease(RevisionedKeys x, Model model) {
        int l = around(0, 5);
        int n = draw(3) == 0 ? around(0, 100) : draw(12);
        int length = around(1, 50);
        switch (draw(10)) {
            case 0, 1, 2, 3 -> due.is("grant(" + l + ", " + length + ")", x.grant(l, length),
                    model.grant(l, length));
            case 4 -> due.is("renew(" + l + ")", x.renew(l), model.renew(l));
            case 5 -> due.is("revoke(" + l + ")", x.revoke(l), model.revoke(l));
            case 6 -> due.is("remaining(" + l + ")", x.remaining(l), model.remaining(l));
            case 7 -> due.is("keysOf(" + l + ")", x.keysOf(l), model.keysOf(l));
            default -> due.is("advance(" + n + ")", x.advance(n), model.advance(n));
        }
    }

    private static void watch(RevisionedKeys x, Model model) {
        int w = around(0, 3);
        int a = lower();
        int b = upper();
        int r = asked(model);
        int what = around(0, 2);
        switch (draw(12)) {
            case 0, 1 -> due.is("watch(" + w + ", " + a + ", " + b + ", " + r + ")",
                    x.watch(w, a, b, r), model.watch(w, a, b, r));
            case 2 -> due.is("unwatch(" + w + ")", x.unwatch(w), model.unwatch(w));
            case 3, 4, 5, 6, 7 -> due.is("next(" + w + ")", x.next(w), model.next(w));
            case 8, 9 -> due.is("handed(" + w + ", " + what + ")", x.handed(w, what),
                    model.handed(w, what));
            default -> due.is("waiting(" + w + ")", x.waiting(w), model.waiting(w));
        }
    }

    /** What calls after the 512th answer is free, but they may not throw either. */
    private static void neverThrows() {
        due.about("no call throws");
        RevisionedKeys x = new RevisionedKeys();
        int done = 0;
        for (int i = 0; i < 200000; i++) {
            x.put(around(0, 15), i, around(-1, 5));
            x.grant(around(0, 5), around(1, 50));
            x.advance(around(0, 100));
            x.erase(lower(), upper());
            x.watch(around(0, 3), lower(), upper(), around(-1, i));
            x.next(around(0, 3));
            x.keyAt(lower(), upper(), around(0, 16), around(-1, i));
            x.compact(x.revision() - draw(200));
            x.swap(around(0, 15), 0, i);
            x.unwatch(draw(40));
            done++;
        }
        due.is("rounds", done, 200000);
    }
}

/** Promises 53 to 65: changes, undo, save and restore. */
public final class ChangesTest {
    private static final Check CHECK = new Check();
    private static final String ROW = "parade 50 30 40 5 20 60"
            + ";bearer a 40 10;bearer b 30 5;bearer c 20 0;stand left 0 c";

    public static void main(String[] args) {
        tickMoves();
        tickPlans();
        tickDropsAndPicks();
        tickPicksTheBest();
        tickReads();
        tickBounds();
        swap();
        drop();
        pick();
        strengthen();
        rest();
        setStep();
        addPlan();
        set();
        undo();
        undoOfEachChange();
        undoOfWhatLies();
        refusedIsNoChange();
        saveAndRestore();
        CHECK.end();
    }

    /** Place and strength of one bearer behind the other. */
    private static void row(BannerParade x, String when, int... want) {
        for (int b = 0; b < want.length / 2; b++) {
            CHECK.is(x.bearer(b, 1), want[2 * b], "place of " + b + " " + when);
            CHECK.is(x.bearer(b, 4), want[2 * b + 1], "strength of " + b + " " + when);
        }
    }

    private static String letters(BannerParade x) {
        return Check.written(x, x.writeRow());
    }

    private static void tickMoves() {
        CHECK.about("promise 53, moves");
        BannerParade x = Check.loaded(ROW);
        CHECK.is(x.tick(1), 0, "tick(1)");
        row(x, "at 1", 40, 90, -20, 95, -80, 100);
        x.tick(1);
        row(x, "at 2", 76, 80, 8, 90, -60, 100);
        x.strengthen(0, -80);
        x.tick(1);
        // bearer 0 stands at 76 and rests; 8 + 27 is more than 76 - 50
        row(x, "at 3", 76, 5, 26, 85, -40, 100);
        CHECK.is(x.bearer(0, 7), 2, "moved");
        CHECK.is(x.bearer(1, 7), 3, "moved");
        x.set(0, 60);
        x.tick(1);
        // too near now, but it never goes back; 5 of 40 are a stride of 2
        row(x, "at 4", 78, 0, 26, 90, -34, 100);
        CHECK.is(x.bearer(2, 7), 4, "moved by 6");
        CHECK.is(x.bearer(1, 7), 3, "stood");
        BannerParade y = Check.loaded("parade 5 0 1 50 1 0;bearer a 1 20;bearer b 9 3");
        y.tick(1);
        row(y, "at 1", 1, 80, -4, 97);
        y.tick(1);
        row(y, "at 2", 1, 100, -4, 100);
        y.tick(2);
        CHECK.is(y.count(3), 4, "the time");
        row(y, "at 4", 2, 100, -3, 100);
    }

    private static void tickPlans() {
        CHECK.about("promise 53, plans");
        BannerParade x = Check.loaded("parade 10 0 1 0 100 10;bearer a 1 0;bearer b 1 0"
                + ";bearer c 1 0;plan 2 1;plan 1 0;plan 1 1;plan 1 0");
        x.tick(1);
        // abc, bac, bca, cba
        CHECK.is(letters(x), "cba", "three swaps by the numbers of the plans");
        row(x, "behind them", 0, 96, -10, 94, -20, 98);
        CHECK.is(x.count(6), 3, "count(6)");
        x.tick(1);
        CHECK.is(letters(x), "cab", "the plan for tick 2");
        x.addPlan(3, 0);
        x.addPlan(3, 1);
        x.strengthen(1, -90);
        x.tick(1);
        CHECK.is(letters(x), "a-b", "with the strength 2 once only, then c is dropped");
        CHECK.is(x.plan(4, 2), 1, "done");
        CHECK.is(x.plan(5, 2), 2, "missed: its strength is 0 then");
        CHECK.is(x.count(8), 1, "count(8)");
        CHECK.is(x.count(7), 1, "count(7)");
        BannerParade y = Check.loaded("parade 10 0 1 0 100 9;bearer a 1 0;bearer b 1 0;plan 1 0");
        y.tick(1);
        CHECK.is(letters(y), "ab", "beyond NEAR");
        CHECK.is(y.plan(0, 2), 2, "missed");
        row(y, "behind a plan that was missed", 1, 100, -9, 100);
    }

    private static void tickDropsAndPicks() {
        CHECK.about("promise 53, drops and picks");
        // bearer 0: 20 on with 0 left; bearer 1 comes by with strength
        BannerParade x = Check.loaded("parade 10 0 1 0 50 100;bearer a 100 20;bearer b 30 0"
                + ";bearer c 30 1");
        x.strengthen(0, -80);
        x.drop(1);
        x.tick(1);
        // bearer 0 drops a at 20; bearer 1 went from -10 to 10 and picks up b at -10
        CHECK.is(letters(x), "-bc", "letters at 1");
        CHECK.is(x.lying(0, 0), 1, "a lies");
        CHECK.is(x.lying(0, 1), 20, "at its place");
        CHECK.is(x.lying(0, 2), 1, "with the time");
        row(x, "at 1", 20, 0, 10, 100, 0, 99);
        x.drop(1);
        x.set(0, 1);
        x.tick(1);
        // bearer 1 goes from 10 to 19 and picks up b at 10
        CHECK.is(letters(x), "-bc", "letters at 2");
        x.drop(2);
        x.drop(1);
        x.strengthen(1, -51);
        x.strengthen(2, -100);
        x.tick(1);
        CHECK.is(letters(x), "---", "less than LIFT");
        x.strengthen(1, 1);
        x.strengthen(0, 30);
        x.set(4, 50);
        x.tick(1);
        // bearer 0 goes 30 on from 20, with 30; bearer 1 from 19 with 50: 15 on, to 34
        CHECK.is(letters(x), "-a-", "the greatest place on its way");
        CHECK.is(x.count(9), 3, "count(9)");
        BannerParade y = Check.loaded("parade 5 0 1 0 1 9;bearer a 10 20;bearer b 10 0");
        y.strengthen(0, -80);
        y.drop(1);
        y.set(0, 1);
        y.tick(1);
        // bearer 0: 2 on and drops at 2; bearer 1: from -5 to 1
        CHECK.is(letters(y), "-b", "b where it started from");
        y.strengthen(1, -100);
        y.tick(1);
        CHECK.is(letters(y), "--", "b is dropped, and not picked up by it");
        CHECK.is(y.count(5), 2, "both lie");
        y.strengthen(0, 1);
        y.tick(1);
        CHECK.is(letters(y), "a-", "bearer 0 picks up where it stands");
    }

    private static void tickPicksTheBest() {
        CHECK.about("promise 53, which one is picked up");
        BannerParade x = Check.loaded("parade 10 0 1 0 100 10;bearer a 200 0;bearer b 200 0"
                + ";bearer c 200 0;bearer d 200 0");
        x.drop(3);
        x.drop(2);
        x.drop(0);
        x.swap(0);
        x.drop(0);
        x.strengthen(0, -10);
        x.strengthen(1, -10);
        x.strengthen(2, -1);
        // d lies at -30, c at -20, a and then b at 0; bearer 3 alone has LIFT and passes them all
        x.tick(1);
        CHECK.is(letters(x), "---a", "the greatest place, the one that was dropped first");
        CHECK.is(x.count(5), 3, "count(5)");
        CHECK.is(x.lying(0, 0), 4, "d lies");
        CHECK.is(x.lying(1, 0), 3, "c lies");
        CHECK.is(x.lying(2, 0), 2, "b lies");
        x.undo();
        x.strengthen(2, 1);
        x.pick(2);
        x.swap(2);
        x.set(4, 98);
        // bearer 2 passes 0 first and takes a, bearer 3 has c
        x.tick(1);
        CHECK.is(letters(x), "--ac", "one that nobody took before");
        BannerParade y = Check.loaded("parade 10 0 1 0 1 10;bearer a 5 0;bearer b 20 0");
        y.drop(1);
        y.drop(0);
        // bearer 0 goes from 0 to 5 and takes a, bearer 1 from -10 to -5 takes b
        y.tick(1);
        CHECK.is(letters(y), "ab", "each one on its way");
        y.drop(1);
        y.drop(0);
        y.setStep(0, 100);
        y.tick(1);
        // bearer 0 took a where it started; bearer 1 goes from -5 to 15 and takes b
        CHECK.is(letters(y), "ab", "ahead of the move");
        y.drop(0);
        y.strengthen(0, -100);
        y.drop(1);
        y.setStep(1, 90);
        y.tick(1);
        // a lies at 105; bearer 1 goes from 15 to 95 at most, and not to 105
        CHECK.is(letters(y), "-b", "not beyond the place now");
    }

    private static void tickReads() {
        CHECK.about("promise 53, words");
        BannerParade x = Check.loaded("parade 10 5 20 0 1 10;bearer a 10 0;bearer b 5 0"
                + ";stand left 20 a;stand right 20 a;stand left 30 a;stand left 0 a");
        CHECK.is(x.readStands(), 0, "not by load");
        CHECK.is(x.isRead(3), true, "though stand 3 reads it");
        x.rest(1);
        x.strengthen(0, 0);
        CHECK.is(x.readStands(), 0, "not by other changes");
        CHECK.is(x.tick(1), 0, "tick 1: bearer 0 at 10, bearer 1 at -5 makes b for stand 3");
        CHECK.is(x.tick(1), 2, "tick 2");
        CHECK.is(x.tick(2), 1, "ticks 3 and 4");
        CHECK.is(x.stand(0, 3), 2, "stand(0, 3)");
        CHECK.is(x.stand(2, 3), 3, "stand(2, 3)");
        CHECK.is(x.stand(3, 3), -1, "stand(3, 3)");
        BannerParade y = Check.loaded("parade 10 5 20 0 1 10;bearer a 1 0;stand left 0 a");
        CHECK.is(y.tick(1), 1, "the first time");
        CHECK.is(y.tick(1), 0, "not again");
        CHECK.is(y.stand(0, 3), 1, "the first time stays");
        y.undo();
        y.undo();
        CHECK.is(y.tick(3), 1, "undone and read again");
    }

    private static void tickBounds() {
        CHECK.about("promise 53, bounds");
        BannerParade x = Check.loaded(ROW);
        for (int ticks : new int[] {0, -1, 101, Integer.MAX_VALUE, Integer.MIN_VALUE}) {
            CHECK.fails(Check.ARGUMENT, "tick(" + ticks + ")", () -> x.tick(ticks));
        }
        for (int k = 0; k < 49; k++) {
            x.tick(100);
        }
        x.tick(99);
        CHECK.fails(Check.ARGUMENT, "tick(2) at 4999", () -> x.tick(2));
        CHECK.is(x.count(3), 4999, "the time");
        x.tick(1);
        CHECK.is(x.count(3), 5000, "the time");
        CHECK.fails(Check.ARGUMENT, "tick(1) at 5000", () -> x.tick(1));
        CHECK.is(x.undoable(), 8, "undoable()");
    }

    private static void swap() {
        CHECK.about("promise 54");
        BannerParade x = Check.loaded(ROW);
        CHECK.is(x.swap(0), 2, "swap(0)");
        CHECK.is(letters(x), "bac", "letters");
        row(x, "behind a swap", 0, 98, -50, 98, -100, 100);
        CHECK.is(x.swap(1), 3, "swap(1)");
        CHECK.is(letters(x), "bca", "letters");
        x.drop(0);
        CHECK.is(x.swap(0), 3, "swap(0) from none");
        CHECK.is(letters(x), "c-a", "letters");
        CHECK.is(x.swap(0), 0, "swap(0) to none");
        CHECK.is(letters(x), "-ca", "letters");
        x.strengthen(0, -100);
        CHECK.fails(Check.ARGUMENT, "the one ahead without strength", () -> x.swap(0));
        x.strengthen(0, 1);
        CHECK.is(x.swap(0), 3, "swap with the strength 1");
        CHECK.is(x.bearer(0, 4), 0, "not less than 0");
        x.strengthen(0, 9);
        x.strengthen(1, -100);
        CHECK.fails(Check.ARGUMENT, "the one behind without strength", () -> x.swap(0));
        x.strengthen(1, 9);
        x.set(5, 49);
        CHECK.fails(Check.ARGUMENT, "beyond NEAR", () -> x.swap(0));
        x.set(5, 50);
        CHECK.is(x.swap(0), 0, "at NEAR");
        CHECK.fails(Check.ARGUMENT, "the last one", () -> x.swap(2));
        CHECK.fails(Check.INDEX, "swap(3)", () -> x.swap(3));
        CHECK.fails(Check.INDEX, "swap(-1)", () -> x.swap(-1));
        CHECK.is(x.count(6), 6, "count(6)");
    }

    private static void drop() {
        CHECK.about("promise 55");
        BannerParade x = Check.loaded(ROW);
        x.tick(1);
        CHECK.is(x.drop(2), 1, "drop(2)");
        CHECK.is(x.drop(0), 2, "drop(0)");
        CHECK.is(letters(x), "-b-", "letters");
        CHECK.is(x.lying(0, 0), 3, "the first one");
        CHECK.is(x.lying(0, 1), -80, "its place");
        CHECK.is(x.lying(0, 2), 1, "its time");
        CHECK.is(x.lying(1, 1), 40, "the place of the second one");
        row(x, "no strength goes", 40, 90, -20, 95, -80, 100);
        x.strengthen(1, -100);
        CHECK.is(x.drop(1), 3, "drop(1) without strength");
        CHECK.is(x.count(8), 3, "count(8)");
        CHECK.fails(Check.ARGUMENT, "drop(0) of none", () -> x.drop(0));
        CHECK.fails(Check.INDEX, "drop(3)", () -> x.drop(3));
        CHECK.fails(Check.INDEX, "drop(-1)", () -> x.drop(-1));
        BannerParade y = Check.loaded("parade 1 0 1 0 1 0" + ";bearer z 1 1".repeat(12));
        for (int b = 0; b < 12; b++) {
            CHECK.is(y.drop(b), b + 1, "drop(" + b + ")");
        }
        CHECK.is(y.copies(26), 12, "all lie");
    }

    private static void pick() {
        CHECK.about("promise 56");
        BannerParade x = Check.loaded("parade 10 0 1 0 20 99;bearer a 10 0;bearer b 20 0"
                + ";bearer c 1 0");
        x.swap(0);
        x.swap(0);
        CHECK.fails(Check.ARGUMENT, "pick(0) with one", () -> x.pick(0));
        x.drop(0);
        x.swap(0);
        x.drop(0);
        // a and b lie at 0, a was dropped first
        CHECK.fails(Check.ARGUMENT, "pick(1): none lies at -10", () -> x.pick(1));
        x.strengthen(0, -100);
        x.strengthen(0, 19);
        CHECK.fails(Check.ARGUMENT, "pick(0) with less than LIFT", () -> x.pick(0));
        x.strengthen(0, 1);
        CHECK.is(x.pick(0), 1, "pick(0)");
        CHECK.is(x.bearer(0, 4), 20, "no strength goes");
        CHECK.is(letters(x), "a-c", "letters");
        CHECK.is(x.count(5), 1, "count(5)");
        CHECK.is(x.lying(0, 0), 2, "b lies");
        CHECK.is(x.count(9), 1, "count(9)");
        CHECK.fails(Check.ARGUMENT, "pick(0) with one", () -> x.pick(0));
        CHECK.fails(Check.INDEX, "pick(3)", () -> x.pick(3));
        CHECK.fails(Check.INDEX, "pick(-1)", () -> x.pick(-1));
    }

    private static void strengthen() {
        CHECK.about("promise 57");
        BannerParade x = Check.loaded(ROW);
        CHECK.is(x.strengthen(1, -30), 70, "less");
        CHECK.is(x.strengthen(1, 20), 90, "greater");
        CHECK.is(x.strengthen(1, 100), 100, "not greater than 100");
        CHECK.is(x.strengthen(1, 0), 100, "by 0");
        CHECK.is(x.strengthen(1, -99), 1, "1");
        CHECK.is(x.strengthen(1, -100), 0, "not less than 0");
        CHECK.is(letters(x), "abc", "its banner stays");
        row(x, "of the others", 0, 100, -50, 0, -100, 100);
        CHECK.fails(Check.INDEX, "strengthen(3, 101)", () -> x.strengthen(3, 101));
        CHECK.fails(Check.INDEX, "strengthen(-1, 0)", () -> x.strengthen(-1, 0));
        CHECK.fails(Check.ARGUMENT, "strengthen(0, 101)", () -> x.strengthen(0, 101));
        CHECK.fails(Check.ARGUMENT, "strengthen(0, -101)", () -> x.strengthen(0, -101));
    }

    private static void rest() {
        CHECK.about("promise 58");
        BannerParade x = Check.loaded(ROW);
        x.strengthen(0, -100);
        x.strengthen(1, -60);
        CHECK.is(x.rest(1), 142, "rest(1)");
        CHECK.is(x.rest(60), 261, "rest(60)");
        row(x, "behind rest", 0, 61, -50, 100, -100, 100);
        CHECK.is(x.rest(100), 300, "rest(100)");
        CHECK.fails(Check.ARGUMENT, "rest(0)", () -> x.rest(0));
        CHECK.fails(Check.ARGUMENT, "rest(101)", () -> x.rest(101));
        CHECK.fails(Check.ARGUMENT, "rest(-1)", () -> x.rest(-1));
        CHECK.is(Check.loaded("parade 1 0 1 0 1 0").rest(1), 0, "no bearers");
    }

    private static void setStep() {
        CHECK.about("promise 59");
        BannerParade x = Check.loaded(ROW);
        CHECK.is(x.setStep(2, 200), 20, "setStep(2, 200)");
        CHECK.is(x.setStep(2, 1), 200, "setStep(2, 1)");
        CHECK.is(x.setStep(2, 7), 1, "setStep(2, 7)");
        CHECK.is(x.bearer(2, 2), 7, "STEP");
        CHECK.is(x.bearer(2, 5), 7, "the stride");
        CHECK.is(x.bearer(1, 2), 30, "STEP of another one");
        CHECK.fails(Check.INDEX, "setStep(3, 0)", () -> x.setStep(3, 0));
        CHECK.fails(Check.INDEX, "setStep(-1, 1)", () -> x.setStep(-1, 1));
        CHECK.fails(Check.ARGUMENT, "setStep(0, 0)", () -> x.setStep(0, 0));
        CHECK.fails(Check.ARGUMENT, "setStep(0, 201)", () -> x.setStep(0, 201));
    }

    private static void addPlan() {
        CHECK.about("promise 60");
        BannerParade x = Check.loaded(ROW + ";plan 9 0");
        x.tick(3);
        CHECK.fails(Check.ARGUMENT, "addPlan now", () -> x.addPlan(3, 0));
        CHECK.is(x.addPlan(4, 1), 1, "addPlan(4, 1)");
        CHECK.is(x.plan(1, 0), 4, "its time");
        CHECK.is(x.plan(1, 1), 1, "its bearer");
        CHECK.is(x.plan(1, 2), 0, "to come");
        CHECK.is(x.addPlan(5000, 0), 2, "addPlan(5000, 0)");
        CHECK.fails(Check.ARGUMENT, "addPlan(5001, 0)", () -> x.addPlan(5001, 0));
        CHECK.fails(Check.ARGUMENT, "addPlan(-1, 0)", () -> x.addPlan(-1, 0));
        CHECK.fails(Check.ARGUMENT, "addPlan of the last one", () -> x.addPlan(9, 2));
        CHECK.fails(Check.INDEX, "addPlan(0, 3)", () -> x.addPlan(0, 3));
        CHECK.fails(Check.INDEX, "addPlan(9, -1)", () -> x.addPlan(9, -1));
        for (int k = 3; k < 12; k++) {
            CHECK.is(x.addPlan(9, 1), k, "addPlan " + k);
        }
        CHECK.fails(Check.ARGUMENT, "a 13th plan", () -> x.addPlan(9, 1));
        CHECK.is(x.count(2), 12, "count(2)");
        x.tick(6);
        CHECK.is(x.count(11), 1, "they came");
        CHECK.fails(Check.ARGUMENT, "a 13th plan, behind all of them", () -> x.addPlan(99, 1));
    }

    private static void set() {
        CHECK.about("promise 61");
        BannerParade x = Check.loaded(ROW);
        int[] before = {50, 30, 40, 5, 20, 60};
        int[] least = {1, 0, 1, 0, 1, 0};
        int[] greatest = {999, 9999, 9999, 50, 100, 9999};
        for (int k = 0; k < 6; k++) {
            int what = k;
            CHECK.is(x.set(what, greatest[k]), before[k], "set(" + k + ") to the greatest");
            CHECK.is(x.set(what, least[k]), greatest[k], "set(" + k + ") to the least");
            CHECK.is(x.setting(what), least[k], "setting(" + k + ")");
            CHECK.fails(Check.ARGUMENT, "less than " + k, () -> x.set(what, least[what] - 1));
            CHECK.fails(Check.ARGUMENT, "more than " + k, () -> x.set(what, greatest[what] + 1));
            CHECK.is(x.setting(what), least[k], "setting(" + k + ") stays");
        }
        CHECK.fails(Check.ARGUMENT, "set(-1, 1)", () -> x.set(-1, 1));
        CHECK.fails(Check.ARGUMENT, "set(6, 1)", () -> x.set(6, 1));
        row(x, "the places stay", 0, 100, -50, 100, -100, 100);
    }

    private static void undo() {
        CHECK.about("promises 62 and 63");
        BannerParade none = new BannerParade();
        CHECK.fails(Check.STATE, "undo() unloaded", none::undo);
        CHECK.is(none.undoable(), 0, "undoable() unloaded");
        BannerParade x = Check.loaded(ROW);
        CHECK.fails(Check.STATE, "undo() of nothing", x::undo);
        for (int k = 1; k <= 11; k++) {
            x.setStep(0, k);
            CHECK.is(x.undoable(), Math.min(k, 8), "undoable() behind " + k);
        }
        for (int k = 7; k >= 5; k--) {
            CHECK.is(x.undo(), k, "undo()");
            CHECK.is(x.bearer(0, 2), k + 3, "STEP");
        }
        for (int k = 21; k <= 24; k++) {
            x.setStep(0, k);
        }
        CHECK.is(x.undoable(), 8, "undoable() again");
        int[] want = {23, 22, 21, 8, 7, 6, 5, 4};
        for (int k = 0; k < 8; k++) {
            CHECK.is(x.undo(), 7 - k, "undo()");
            CHECK.is(x.bearer(0, 2), want[k], "STEP");
        }
        CHECK.fails(Check.STATE, "undo() of a change that is too old", x::undo);
        CHECK.is(x.bearer(0, 2), 4, "STEP stays");
        x.rest(1);
        x.strengthen(0, 0);
        x.set(3, 5);
        x.setStep(1, 30);
        CHECK.is(x.undoable(), 4, "changes by which nothing is different");
    }

    private static BannerParade readyForAll() {
        BannerParade x = Check.loaded(ROW + ";stand right 5 a;plan 2 0;plan 3 1");
        x.drop(2);
        x.drop(1);
        x.swap(1);
        return x;
    }

    private static void change(BannerParade x, int kind) {
        switch (kind) {
            case 0: x.tick(7); break;
            case 1: x.swap(0); break;
            case 2: x.drop(0); break;
            case 3: x.pick(2); break;
            case 4: x.strengthen(2, -98); break;
            case 5: x.rest(1); break;
            case 6: x.setStep(1, 9); break;
            case 7: x.addPlan(9, 0); break;
            default: x.set(1, 9); break;
        }
    }

    private static void undoOfEachChange() {
        CHECK.about("promise 62, all of the state");
        for (int kind = 0; kind <= 8; kind++) {
            BannerParade x = readyForAll();
            String before = Whole.state(x);
            change(x, kind);
            CHECK.is(Whole.state(x).equals(before), false, "a change by kind " + kind);
            CHECK.is(x.undo(), 3, "undo() of kind " + kind);
            CHECK.is(Whole.state(x), before, "undone kind " + kind);
        }
    }

    private static void undoOfWhatLies() {
        CHECK.about("promise 62, the banners that lie");
        BannerParade x = Check.loaded(ROW);
        x.set(4, 100);
        x.tick(1);
        x.strengthen(0, -1);
        x.drop(0);
        x.strengthen(2, -1);
        x.drop(2);
        x.save(0);
        String before = Whole.state(x);
        CHECK.is(x.lying(0, 2), 1, "dropped at 1");
        x.set(4, 1);
        x.pick(0);
        x.tick(3);
        x.drop(0);
        x.drop(1);
        CHECK.is(x.lying(1, 2), 4, "dropped at 4");
        for (int k = 0; k < 5; k++) {
            x.undo();
        }
        CHECK.is(Whole.state(x), before, "undone");
        x.tick(2);
        x.restore(0);
        CHECK.is(Whole.state(x), before, "restored");
    }

    private static void refusedIsNoChange() {
        CHECK.about("a call that throws changes nothing");
        BannerParade x = readyForAll();
        String before = Whole.state(x);
        CHECK.fails(Check.ARGUMENT, "tick", () -> x.tick(101));
        CHECK.fails(Check.ARGUMENT, "swap", () -> x.swap(2));
        CHECK.fails(Check.ARGUMENT, "drop", () -> x.drop(1));
        CHECK.fails(Check.ARGUMENT, "pick", () -> x.pick(0));
        CHECK.fails(Check.ARGUMENT, "strengthen", () -> x.strengthen(0, 101));
        CHECK.fails(Check.ARGUMENT, "rest", () -> x.rest(0));
        CHECK.fails(Check.ARGUMENT, "setStep", () -> x.setStep(0, 0));
        CHECK.fails(Check.ARGUMENT, "addPlan", () -> x.addPlan(0, 0));
        CHECK.fails(Check.ARGUMENT, "set", () -> x.set(0, 0));
        CHECK.fails(Check.INDEX, "save", () -> x.save(2));
        CHECK.fails(Check.STATE, "restore", () -> x.restore(1));
        CHECK.is(Whole.state(x), before, "all of the state");
        CHECK.is(x.undoable(), 3, "undoable()");
    }

    private static void saveAndRestore() {
        CHECK.about("promises 64 and 65");
        BannerParade none = new BannerParade();
        CHECK.fails(Check.STATE, "save(0) unloaded", () -> none.save(0));
        CHECK.fails(Check.STATE, "save(2) unloaded", () -> none.save(2));
        CHECK.fails(Check.STATE, "restore(1) unloaded", () -> none.restore(1));
        CHECK.fails(Check.INDEX, "restore(-1) unloaded", () -> none.restore(-1));
        BannerParade x = readyForAll();
        CHECK.is(x.save(0), 0, "save(0)");
        CHECK.is(x.undoable(), 3, "save is no change");
        String first = Whole.state(x);
        for (int kind : new int[] {8, 7, 6, 5, 3, 4, 1, 0}) {
            change(x, kind);
        }
        CHECK.is(x.save(1), 7, "save(1)");
        String second = Whole.state(x);
        CHECK.fails(Check.INDEX, "save(2)", () -> x.save(2));
        CHECK.fails(Check.INDEX, "save(-1)", () -> x.save(-1));
        CHECK.fails(Check.INDEX, "restore(2)", () -> x.restore(2));
        CHECK.fails(Check.INDEX, "restore(-1)", () -> x.restore(-1));
        CHECK.is(x.undoable(), 8, "undoable() stays");
        CHECK.is(x.restore(0), 0, "restore(0)");
        CHECK.is(Whole.state(x), first, "the first state");
        CHECK.is(x.undoable(), 0, "nothing can be undone");
        CHECK.fails(Check.STATE, "undo()", x::undo);
        x.tick(1);
        CHECK.is(x.undoable(), 1, "undoable() behind a change");
        CHECK.is(x.restore(1), 7, "restore(1)");
        CHECK.is(Whole.state(x), second, "the second state");
        CHECK.is(x.restore(0), 0, "it stays saved");
        CHECK.is(Whole.state(x), first, "the first state again");
        x.tick(2);
        CHECK.is(x.save(0), 2, "save(0) in place of what was saved");
        x.restore(1);
        CHECK.is(x.restore(0), 2, "restore(0) of the later one");
    }
}

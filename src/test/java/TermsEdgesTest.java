/** The boundary cases that sections 1 to 5 of "Terms" name, one sentence after the other. */
public final class TermsEdgesTest {
    private static final Check CHECK = new Check();
    private static final int SPACE = 0;
    private static final int REACH = 1;
    private static final int WIDE = 2;
    private static final int REST = 3;
    private static final int LIFT = 4;
    private static final int NEAR = 5;

    public static void main(String[] args) {
        asManyAsThereMayBe();
        placesAtFirst();
        oneBannerAtMost();
        stride();
        noFartherThanTheOneAhead();
        neverBack();
        notLessThanNoStrength();
        notMoreThanFullStrength();
        movedOrStood();
        planAtItsTime();
        planIfItMayBe();
        planAheadOfTheMove();
        plansOneAfterTheOther();
        dropWithoutStrength();
        dropsByTheNumbers();
        liftStrength();
        liftOnTheWay();
        liftOfSeveral();
        liftByTheNumbers();
        liftOfThisTick();
        wordsAtTheEnd();
        wordsByTicksAlone();
        swapDistance();
        swapStrength();
        swapWithoutBanners();
        bannersThatLie();
        sight();
        sightAtTheLimits();
        textsFromBothSides();
        blanks();
        CHECK.end();
    }

    private static BannerParade loaded(String text) {
        return Check.loaded(text);
    }

    private static void is(BannerParade x, int b, int place, int strength, String when) {
        CHECK.is(x.bearer(b, 1), place, "place of " + b + ", " + when);
        CHECK.is(x.bearer(b, 4), strength, "strength of " + b + ", " + when);
    }

    private static String letters(BannerParade x) {
        return Check.written(x, x.writeRow());
    }

    private static String text(BannerParade x, int s) {
        return Check.written(x, x.writeStand(s));
    }

    // ---- section 1

    private static void asManyAsThereMayBe() {
        CHECK.about("at most 12 bearers, 6 stands and 12 plans, each kind numbered from 0");
        StringBuilder text = new StringBuilder("parade 1 0 1 0 1 0");
        for (int k = 0; k < 12; k++) {
            text.append(";bearer ").append((char) ('a' + k)).append(" 1 0");
            text.append(k < 6 ? ";stand left " + k + " w" : "");
        }
        for (int k = 0; k < 12; k++) {
            text.append(";plan ").append(100 + k).append(" ").append(k % 11);
        }
        BannerParade x = loaded(text.toString());
        for (int k = 0; k < 12; k++) {
            CHECK.is(x.bearer(k, 8), k + 1, "bearer " + k);
            CHECK.is(x.plan(k, 0), 100 + k, "plan " + k);
            if (k < 6) {
                CHECK.is(x.stand(k, 1), k, "stand " + k);
            }
        }
        CHECK.fails(Check.INDEX, "bearer 12", () -> x.bearer(12, 8));
        CHECK.fails(Check.INDEX, "stand 6", () -> x.stand(6, 1));
        CHECK.fails(Check.INDEX, "plan 12", () -> x.plan(12, 0));
    }

    private static void placesAtFirst() {
        CHECK.about("at first bearer k is at the place -SPACE times k");
        for (int space : new int[] {1, 2, 999}) {
            BannerParade x = loaded("parade " + space + " 0 1 0 1 0" + ";bearer a 1 0".repeat(12));
            for (int k = 0; k < 12; k++) {
                is(x, k, -space * k, 100, "SPACE " + space);
            }
        }
    }

    private static void oneBannerAtMost() {
        CHECK.about("it carries at most one banner");
        BannerParade x = loaded("parade 10 0 1 0 100 10;bearer a 200 0;bearer b 100 0");
        x.drop(0);
        x.strengthen(0, -1);
        x.tick(1);
        is(x, 1, 90, 100, "it has passed a at 0");
        CHECK.is(letters(x), "-b", "it carries its own one");
        x.undo();
        x.drop(1);
        x.tick(1);
        CHECK.is(letters(x), "-a", "without its own one it picks up a");
    }

    // ---- section 2

    private static void stride() {
        CHECK.about("STEP times strength, divided by 100, cast to an int");
        for (int step : new int[] {1, 2, 53, 59, 75, 84, 100, 105, 106, 117, 150, 180, 199, 200}) {
            BannerParade x = loaded("parade 1 0 1 0 1 0;bearer a " + step + " 0");
            for (int strength = 100; strength >= 0; strength--) {
                CHECK.is(x.bearer(0, 5), step * strength / 100, step + " with " + strength);
                x.strengthen(0, -1);
            }
        }
    }

    private static void noFartherThanTheOneAhead() {
        CHECK.about("no farther than to the place of the one ahead, where it is by now, less SPACE");
        int[] places = {-6, -5, -5};
        for (int step = 4; step <= 6; step++) {
            BannerParade x = loaded("parade 10 0 1 0 1 0;bearer a 5 0;bearer b " + step + " 7");
            x.tick(1);
            is(x, 0, 5, 100, "STEP " + step + " behind it");
            is(x, 1, places[step - 4], 93, "STEP " + step);
            CHECK.is(x.bearer(1, 7), 1, "it moved");
        }
        BannerParade y = loaded("parade 999 0 1 0 1 0" + ";bearer a 200 0".repeat(12));
        for (int b = 0; b < 12; b++) {
            y.setStep(b, 199 + (b + 1) / 2 % 2);
        }
        y.tick(1);
        for (int b = 0; b < 12; b++) {
            CHECK.is(y.bearer(b, 1), 199 - 999 * b, "the first one is the slowest one, " + b);
        }
    }

    /** Bearer 0 stands at 0, bearer 1 could go 5 on from -10; SPACE becomes another one. */
    private static BannerParade behindOneThatStands(int space) {
        BannerParade x = loaded("parade 10 0 1 3 1 0;bearer a 1 0;bearer b 10 2");
        x.strengthen(0, -50);
        x.strengthen(1, -50);
        x.set(SPACE, space);
        x.tick(1);
        return x;
    }

    private static void neverBack() {
        CHECK.about("it never goes back");
        is(behindOneThatStands(4), 1, -5, 48, "SPACE 4 leaves more than the stride");
        is(behindOneThatStands(5), 1, -5, 48, "SPACE 5 leaves just the stride");
        is(behindOneThatStands(9), 1, -9, 48, "SPACE 9 leaves 1");
        is(behindOneThatStands(10), 1, -10, 53, "SPACE 10 leaves nothing");
        is(behindOneThatStands(11), 1, -10, 53, "SPACE 11 is more than the distance");
        is(behindOneThatStands(999), 1, -10, 53, "SPACE 999");
        CHECK.is(behindOneThatStands(9).bearer(1, 7), 1, "it moved by 1");
        CHECK.is(behindOneThatStands(10).bearer(1, 7), 0, "it stood");
        CHECK.is(behindOneThatStands(11).bearer(1, 7), 0, "it stood, too near");
    }

    private static void notLessThanNoStrength() {
        CHECK.about("its strength becomes less by LAG, but not less than 0");
        int[][] cases = {{19, 20, 0}, {20, 20, 0}, {21, 20, 1}, {100, 20, 80}, {1, 1, 0},
            {2, 1, 1}, {1, 0, 1}, {100, 0, 100}};
        for (int[] it : cases) {
            BannerParade x = loaded("parade 1 0 1 9 100 0;bearer a 200 " + it[1]);
            x.strengthen(0, it[0] - 100);
            x.tick(1);
            is(x, 0, 2 * it[0], it[2], it[0] + " with LAG " + it[1]);
        }
    }

    private static void notMoreThanFullStrength() {
        CHECK.about("its strength becomes greater by REST, but not greater than 100");
        int[][] cases = {{49, 50, 99}, {50, 50, 100}, {51, 50, 100}, {99, 50, 100}, {0, 50, 50},
            {99, 1, 100}, {98, 1, 99}, {0, 0, 0}, {99, 0, 99}};
        for (int[] it : cases) {
            BannerParade x = loaded("parade 1 0 1 " + it[1] + " 100 0;bearer a 1 20");
            x.strengthen(0, it[0] - 100);
            x.tick(1);
            is(x, 0, 0, it[2], it[0] + " with REST " + it[1]);
        }
        BannerParade y = loaded("parade 10 0 1 50 100 0;bearer a 1 0;bearer b 200 20");
        y.strengthen(0, -100);
        y.tick(1);
        is(y, 1, -10, 100, "it had 100 and stood");
    }

    private static void movedOrStood() {
        CHECK.about("if its place is greater than before, it moved; otherwise it stood");
        for (int strength : new int[] {50, 49, 0}) {
            BannerParade x = loaded("parade 1 0 1 6 1 0;bearer a 2 3");
            x.strengthen(0, strength - 100);
            x.tick(1);
            boolean moves = strength == 50;
            is(x, 0, moves ? 1 : 0, moves ? 47 : strength + 6, "STEP 2 with " + strength);
            CHECK.is(x.bearer(0, 7), moves ? 1 : 0, "in how many ticks it moved");
        }
    }

    // ---- section 3

    private static void planAtItsTime() {
        CHECK.about("the time, 0 at first, becomes greater by 1; each plan with this time");
        BannerParade x = loaded("parade 10 0 1 0 1 99;bearer a 1 0;bearer b 1 0;plan 3 0;plan 5000 0"
                + ";plan 1 0");
        CHECK.is(x.count(3), 0, "the time");
        int[][] came = {{0, 0, 1}, {0, 0, 1}, {1, 0, 1}, {1, 0, 1}};
        String[] rows = {"ba", "ba", "ab", "ab"};
        for (int t = 1; t <= 4; t++) {
            x.tick(1);
            CHECK.is(x.count(3), t, "the time");
            CHECK.is(letters(x), rows[t - 1], "the row at " + t);
            for (int k = 0; k < 3; k++) {
                CHECK.is(x.plan(k, 2), came[t - 1][k], "plan " + k + " at " + t);
            }
        }
        for (int k = 0; k < 49; k++) {
            x.tick(100);
        }
        x.tick(95);
        CHECK.is(x.count(3), 4999, "the time");
        CHECK.is(x.plan(1, 2), 0, "the plan for 5000 at 4999");
        x.tick(1);
        CHECK.is(x.plan(1, 2), 1, "the plan for 5000 at 5000");
        CHECK.is(letters(x), "ba", "the row at 5000");
    }

    private static void plan(int near, int ahead, int behind, boolean done) {
        BannerParade x = loaded("parade 10 0 1 0 100 " + near
                + ";bearer a 1 0;bearer b 1 0;plan 1 0");
        x.strengthen(0, ahead - 100);
        x.strengthen(1, behind - 100);
        String what = "NEAR " + near + ", strength " + ahead + " and " + behind;
        x.tick(1);
        CHECK.is(x.plan(0, 2), done ? 1 : 2, "the plan, " + what);
        CHECK.is(x.count(6), done ? 1 : 0, "swaps, " + what);
        CHECK.is(x.count(7), done ? 0 : 1, "missed, " + what);
        CHECK.is(x.bearer(0, 4), Math.max(0, ahead - (done ? 2 : 0)), "ahead, " + what);
        CHECK.is(x.bearer(1, 4), Math.max(0, behind - (done ? 2 : 0)), "behind, " + what);
    }

    private static void planIfItMayBe() {
        CHECK.about("the swap is done if it may be by then; otherwise the plan is missed");
        plan(10, 100, 100, true);
        plan(9, 100, 100, false);
        plan(0, 100, 100, false);
        plan(10, 1, 1, true);
        plan(10, 0, 1, false);
        plan(10, 1, 0, false);
        plan(10, 2, 3, true);
        plan(11, 3, 2, true);
    }

    private static void planAheadOfTheMove() {
        CHECK.about("the plans come ahead of the move");
        BannerParade x = loaded("parade 10 0 1 0 1 10;bearer a 5 0;bearer b 1 0;plan 1 0");
        x.tick(1);
        CHECK.is(x.bearer(1, 6), 14, "the distance behind the move");
        CHECK.is(x.plan(0, 2), 1, "done, for it was near enough ahead of the move");
        BannerParade y = loaded("parade 12 0 1 0 1 10;bearer a 1 0;bearer b 2 0;plan 1 0");
        y.set(SPACE, 1);
        y.strengthen(0, -50);
        y.tick(1);
        CHECK.is(y.bearer(1, 6), 10, "the distance behind the move");
        CHECK.is(y.plan(0, 2), 2, "missed, for it was not near enough ahead of the move");
        BannerParade z = loaded("parade 10 0 1 9 1 10;bearer a 1 0;bearer b 1 0;plan 1 0");
        z.strengthen(0, -100);
        z.tick(1);
        CHECK.is(z.bearer(0, 4), 9, "the strength behind the move");
        CHECK.is(z.plan(0, 2), 2, "missed, for it had no strength ahead of the move");
        BannerParade w = loaded("parade 10 0 1 0 1 10;bearer a 50 0;bearer b 1 0;plan 1 0");
        w.tick(1);
        CHECK.is(w.bearer(0, 1), 49, "the stride is that of the strength behind the swap");
    }

    private static void plansOneAfterTheOther() {
        CHECK.about("for each plan, one after the other by the numbers of the plans");
        for (int strength = 1; strength <= 5; strength++) {
            BannerParade x = loaded("parade 10 0 1 0 1 10;bearer a 1 0;bearer b 1 0"
                    + ";plan 1 0;plan 1 0");
            x.strengthen(0, strength - 100);
            x.tick(1);
            CHECK.is(x.plan(0, 2), 1, "the first one with " + strength);
            CHECK.is(x.plan(1, 2), strength > 2 ? 1 : 2, "the second one with " + strength);
        }
        String row = "parade 10 0 1 0 1 10;bearer a 1 0;bearer b 1 0;bearer c 1 0";
        BannerParade y = loaded(row + ";plan 1 0;plan 1 1");
        y.tick(1);
        CHECK.is(letters(y), "bca", "0 and then 1");
        BannerParade z = loaded(row + ";plan 1 1;plan 1 0");
        z.tick(1);
        CHECK.is(letters(z), "cab", "1 and then 0");
    }

    private static void dropWithoutStrength() {
        CHECK.about("each bearer that carries a banner and has the strength 0 drops it");
        for (int strength = 19; strength <= 22; strength++) {
            BannerParade x = loaded("parade 10 0 1 0 1 0;bearer a 200 20");
            x.strengthen(0, strength - 100);
            x.tick(1);
            boolean drops = strength <= 20;
            CHECK.is(letters(x), drops ? "-" : "a", "it moves with " + strength);
            CHECK.is(x.count(5), drops ? 1 : 0, "banners that lie");
            CHECK.is(x.count(8), drops ? 1 : 0, "drops");
            if (drops) {
                CHECK.is(x.lying(0, 1), 2 * strength, "at the place of the bearer now");
                CHECK.is(x.lying(0, 2), 1, "with the present time");
            }
        }
        for (int rest = 0; rest <= 1; rest++) {
            BannerParade x = loaded("parade 10 0 1 " + rest + " 100 0;bearer a 1 20");
            x.strengthen(0, -100);
            CHECK.is(x.count(8), 0, "not by other changes");
            x.tick(1);
            CHECK.is(x.count(8), 1 - rest, "drops, REST " + rest);
            x.tick(1);
            CHECK.is(x.count(8), 1 - rest, "none that it does not carry");
        }
    }

    private static void dropsByTheNumbers() {
        CHECK.about("by the numbers of the bearers");
        BannerParade x = loaded("parade 10 0 1 0 1 0;bearer d 1 0;bearer c 1 0;bearer b 1 0"
                + ";bearer a 1 0");
        for (int b = 3; b >= 0; b--) {
            x.strengthen(b, b == 1 ? -50 : -100);
        }
        x.tick(1);
        CHECK.is(letters(x), "-c--", "all without strength");
        int[] want = {4, 2, 1};
        for (int k = 0; k < 3; k++) {
            CHECK.is(x.lying(k, 0), want[k], "letter " + k);
        }
    }

    private static void liftStrength() {
        CHECK.about("a strength of LIFT or more, behind the move");
        // it moves, with LAG 5
        for (int strength : new int[] {54, 55, 56}) {
            BannerParade x = loaded("parade 10 0 1 0 50 0;bearer a 100 5");
            x.drop(0);
            x.strengthen(0, strength - 100);
            x.tick(1);
            CHECK.is(letters(x), strength < 55 ? "-" : "a", "it moves with " + strength);
            CHECK.is(x.bearer(0, 4), strength - 5, "picking up costs no strength");
            CHECK.is(x.count(9), strength < 55 ? 0 : 1, "picks");
        }
        // it stands, with REST 5
        for (int strength : new int[] {44, 45, 46}) {
            BannerParade x = loaded("parade 10 0 1 5 50 0;bearer a 1 0");
            x.drop(0);
            x.strengthen(0, strength - 100);
            x.tick(1);
            CHECK.is(letters(x), strength < 45 ? "-" : "a", "it stands with " + strength);
        }
        BannerParade y = loaded("parade 10 0 1 0 1 0;bearer a 1 0");
        y.drop(0);
        y.strengthen(0, -99);
        y.tick(1);
        CHECK.is(letters(y), "a", "the strength 1 with LIFT 1");
        BannerParade z = loaded("parade 10 0 1 0 100 0;bearer a 1 1");
        z.drop(0);
        z.tick(1);
        CHECK.is(letters(z), "-", "the strength 99 with LIFT 100");
        z.strengthen(0, 1);
        z.setStep(0, 1);
        z.set(LIFT, 99);
        CHECK.is(z.bearer(0, 1), 1, "it went on");
        z.tick(1);
        CHECK.is(letters(z), "-", "it does not go back for it");
    }

    /** Bearer 0 leaves a at 0 and b lies at -10, where bearer 1 starts without a banner. */
    private static BannerParade onTheWay(int step) {
        BannerParade x = loaded("parade 10 0 1 0 100 0;bearer a 200 0;bearer b " + step + " 0");
        x.set(SPACE, 1);
        x.strengthen(0, -51);
        x.strengthen(1, -50);
        x.drop(1);
        x.drop(0);
        return x;
    }

    private static void liftOnTheWay() {
        CHECK.about("at a place that is not greater than the place at which it is now");
        String[] ends = {"-b", "-a", "-a"};
        int[] steps = {18, 20, 22};
        for (int k = 0; k < 3; k++) {
            BannerParade x = onTheWay(steps[k]);
            x.set(LIFT, 50);
            x.tick(1);
            CHECK.is(letters(x), ends[k], "from -10 to " + (k - 1));
            CHECK.is(x.bearer(1, 1), k - 1, "its place");
        }
        CHECK.about("at a place that is not less than the place ahead of the move");
        String[] starts = {"-a", "-a", "--"};
        for (int k = 0; k < 3; k++) {
            BannerParade x = onTheWay(steps[k]);
            x.tick(1);
            CHECK.is(letters(x), "--", "less than LIFT");
            x.set(LIFT, 50);
            x.tick(1);
            CHECK.is(letters(x), starts[k], "from " + (k - 1) + " on");
        }
        CHECK.about("if there is one");
        BannerParade y = onTheWay(20);
        y.set(LIFT, 1);
        y.tick(1);
        CHECK.is(y.count(5), 0, "bearer 0 takes a where it was, bearer 1 takes b where it was");
        CHECK.is(letters(y), "ab", "the letters");
        y.drop(1);
        y.pick(1);
        y.drop(0);
        y.tick(3);
        CHECK.is(y.count(9), 4, "picks");
    }

    private static void liftOfSeveral() {
        CHECK.about("of several the one with the greatest place, the one that was dropped first");
        String row = "parade 10 0 1 0 100 99;bearer a 200 0;bearer b 200 0;bearer c 200 0"
                + ";bearer d 200 0";
        // c lies at -20, and at 0 first a and then b; bearer 3 passes them all
        BannerParade x = loaded(row);
        x.drop(2);
        x.drop(0);
        x.swap(0);
        x.drop(0);
        x.drop(3);
        x.strengthen(2, -2);
        x.tick(1);
        CHECK.is(letters(x), "---a", "the greatest place, dropped first");
        // the one at the greater place was dropped last
        BannerParade y = loaded(row);
        y.drop(3);
        y.drop(2);
        y.drop(1);
        for (int b = 0; b < 3; b++) {
            y.strengthen(b, -2);
        }
        y.tick(1);
        CHECK.is(letters(y), "a--b", "b at -10, dropped last of d, c and b");
        CHECK.is(y.lying(0, 0) * 100 + y.lying(1, 0), 403, "d and c lie");
    }

    private static void liftByTheNumbers() {
        CHECK.about("by the numbers of the bearers");
        BannerParade x = loaded("parade 10 0 1 0 1 99;bearer a 200 0;bearer b 200 0;bearer c 1 0");
        x.drop(0);
        x.swap(0);
        x.drop(0);
        x.swap(1);
        x.swap(0);
        x.drop(0);
        // a, b and c lie at 0; bearer 2 goes from -20 to -20
        x.tick(1);
        CHECK.is(letters(x), "ab-", "bearer 0 comes first and takes a");
        CHECK.is(x.lying(0, 0), 3, "c lies");
        BannerParade y = loaded("parade 10 0 1 0 1 99;bearer a 200 0;bearer b 200 0");
        y.drop(1);
        y.swap(0);
        y.drop(1);
        // b and a lie at -10, where bearer 0 does not come by
        y.tick(1);
        CHECK.is(letters(y), "-b", "the one dropped first, and one banner only");
        CHECK.is(y.count(5), 1, "the other one lies");
    }

    private static void liftOfThisTick() {
        CHECK.about("also one that was dropped in this tick");
        // bearer 0 goes from 0 to 100 and has no banner; bearer 1 drops b at 30
        BannerParade x = loaded("parade 10 0 1 0 1 99;bearer a 100 0;bearer b 200 20");
        x.strengthen(1, -80);
        x.drop(0);
        x.pick(0);
        x.drop(0);
        x.tick(1);
        CHECK.is(x.bearer(1, 1), 30, "the place of bearer 1");
        CHECK.is(letters(x), "b-", "b at 30 is at a greater place than a");
        CHECK.is(x.count(8) * 10 + x.count(9), 32, "drops and picks");
        CHECK.is(x.lying(0, 0), 1, "a lies");
    }

    private static void wordsAtTheEnd() {
        CHECK.about("the words come behind the drops and the picks");
        BannerParade x = loaded("parade 10 0 1 0 1 0;bearer a 200 20;stand left 40 a;stand left 42 a");
        x.strengthen(0, -79);
        CHECK.is(x.tick(1), 1, "at 42 with the strength 1");
        CHECK.is(x.stand(1, 3), 1, "the time");
        x.undo();
        x.strengthen(0, -1);
        CHECK.is(x.tick(1), 0, "at 40 without strength it drops a");
        CHECK.is(x.readStands(), 0, "no word");
        BannerParade y = loaded("parade 10 0 1 0 1 0;bearer a 10 0;stand left 10 a");
        y.drop(0);
        CHECK.is(y.tick(1), 1, "at 10 with the banner that it picked up");
        CHECK.is(y.readStands(), 1, "the word");
        CHECK.about("each stand whose word was not read yet, at this time");
        BannerParade z = loaded("parade 10 10 1 0 1 0;bearer a 10 0;stand left 20 a");
        int[] words = {1, 0, 0, 0};
        for (int t = 1; t <= 4; t++) {
            CHECK.is(z.isRead(0), t >= 2 && t <= 4, "it reads it ahead of " + t);
            CHECK.is(z.tick(1), words[t - 1], "tick " + t);
            CHECK.is(z.stand(0, 3), 1, "the time of the first one");
        }
        CHECK.is(z.count(10), 1, "words that were read");
    }

    private static void wordsByTicksAlone() {
        CHECK.about("words are read by that alone, not by load or by other changes");
        BannerParade x = loaded("parade 10 9999 999 50 1 99;bearer a 1 0;bearer b 1 0"
                + ";stand left 0 ab;stand left 0 ba;stand left 0 a;stand left 0 b");
        CHECK.is(x.isRead(0), true, "the first word");
        x.swap(0);
        CHECK.is(x.isRead(1), true, "the second word");
        x.drop(0);
        CHECK.is(x.isRead(2), true, "the third word");
        x.pick(0);
        x.set(REACH, 5);
        CHECK.is(x.isRead(3), true, "the fourth word");
        x.strengthen(0, -1);
        x.rest(1);
        x.setStep(0, 2);
        x.addPlan(1, 0);
        x.save(0);
        x.restore(0);
        CHECK.is(x.readStands(), 0, "no word was read");
        CHECK.is(x.stand(3, 3), -1, "no time");
        x.set(REACH, 9999);
        CHECK.is(x.tick(1), 1, "but by a tick, in which the plan swaps back");
        CHECK.is(x.readStands(), 1, "the first word");
    }

    // ---- section 4

    private static void swapDistance() {
        CHECK.about("if their distance is not greater than NEAR");
        BannerParade x = loaded("parade 1 0 1 0 1 0;bearer a 200 0;bearer b 1 0");
        CHECK.is(x.swappers(), 0, "distance 1, NEAR 0");
        CHECK.fails(Check.ARGUMENT, "distance 1, NEAR 0", () -> x.swap(0));
        x.set(NEAR, 1);
        CHECK.is(x.swappers(), 1, "distance 1, NEAR 1");
        CHECK.is(x.swap(0), 2, "distance 1, NEAR 1");
        BannerParade y = loaded("parade 999 0 1 0 1 9999;bearer a 200 0;bearer b 1 0");
        y.strengthen(1, -1);
        y.tick(45);
        CHECK.is(y.bearer(1, 6), 9999, "the distance");
        CHECK.is(y.swappers(), 1, "distance 9999, NEAR 9999");
        CHECK.is(y.swap(0), 2, "distance 9999, NEAR 9999");
        y.undo();
        y.setStep(0, 1);
        y.tick(1);
        CHECK.is(y.bearer(1, 6), 10000, "the distance");
        CHECK.is(y.swappers(), 0, "distance 10000, NEAR 9999");
        CHECK.fails(Check.ARGUMENT, "distance 10000, NEAR 9999", () -> y.swap(0));
        BannerParade z = loaded("parade 20 0 1 0 1 9;bearer a 1 0;bearer b 11 0;bearer c 1 0");
        z.set(SPACE, 1);
        z.strengthen(0, -50);
        z.tick(1);
        CHECK.is(z.swappers(), 1, "0, -9 and -39: 0 and 1 alone");
    }

    private static void swapStrength() {
        CHECK.about("both have a strength of 1 or more; less by 2, but not less than 0");
        for (int ahead = 0; ahead <= 4; ahead++) {
            for (int behind = 0; behind <= 4; behind++) {
                BannerParade x = loaded("parade 10 0 1 0 1 10;bearer a 1 0;bearer b 1 0");
                x.strengthen(0, ahead - 100);
                x.strengthen(1, behind - 100);
                boolean may = ahead > 0 && behind > 0;
                String what = ahead + " and " + behind;
                CHECK.is(x.swappers(), may ? 1 : 0, "swappers with " + what);
                if (may) {
                    CHECK.is(x.swap(0), 2, "swap with " + what);
                } else {
                    CHECK.fails(Check.ARGUMENT, "swap with " + what, () -> x.swap(0));
                }
                is(x, 0, 0, may ? Math.max(0, ahead - 2) : ahead, what);
                is(x, 1, -10, may ? Math.max(0, behind - 2) : behind, what);
                CHECK.is(letters(x), may ? "ba" : "ab", "the row with " + what);
            }
        }
    }

    private static void swapWithoutBanners() {
        CHECK.about("if only one carries a banner; it is a swap, too, if none does");
        BannerParade x = loaded("parade 10 0 1 0 1 10;bearer a 1 0;bearer b 1 0");
        x.drop(0);
        CHECK.is(x.swap(0), 2, "the one behind alone");
        CHECK.is(letters(x), "b-", "the row");
        CHECK.is(x.swap(0), 0, "the one ahead alone");
        CHECK.is(letters(x), "-b", "the row");
        x.drop(1);
        CHECK.is(x.swap(0), 0, "none");
        CHECK.is(letters(x), "--", "the row");
        is(x, 0, 0, 94, "three swaps");
        is(x, 1, -10, 94, "three swaps");
        CHECK.is(x.count(6), 3, "three swaps");
        CHECK.is(x.count(5), 2, "what lies stays");
    }

    // ---- section 5

    private static void bannersThatLie() {
        CHECK.about("at the place of the bearer, with the present time, until it is picked up");
        BannerParade x = loaded("parade 10 0 1 0 100 0;bearer a 7 1");
        x.drop(0);
        CHECK.is(x.lying(0, 2), 0, "at the time 0");
        x.tick(5);
        CHECK.is(x.lying(0, 1), 0, "it stays where it is");
        CHECK.is(x.lying(0, 2), 0, "with its time");
        x.undo();
        int strength = x.bearer(0, 4);
        x.pick(0);
        CHECK.is(x.count(5), 0, "it lies no more");
        CHECK.is(x.bearer(0, 4), strength, "no strength for picking up");
        x.drop(0);
        CHECK.is(x.bearer(0, 4), strength, "no strength for dropping");
    }

    private static void sight() {
        CHECK.about("whose place differs from the place of the stand by REACH at most");
        int[][] cases = {{39, 10, 0}, {40, 10, 1}, {41, 10, 1}, {59, 10, 1}, {60, 10, 1},
            {61, 10, 0}, {49, 0, 0}, {50, 0, 1}, {51, 0, 0}};
        for (int[] it : cases) {
            BannerParade x = loaded("parade 10 " + it[1] + " 1 0 1 0;bearer a " + it[0] + " 0"
                    + ";stand left 50 a;stand right 50 a");
            x.tick(1);
            String what = "at " + it[0] + " with REACH " + it[1];
            for (int s = 0; s < 2; s++) {
                CHECK.is(x.seen(s), it[2], what);
                CHECK.is(text(x, s), it[2] == 1 ? "a" : "", what);
                CHECK.is(x.stand(s, 3), it[2] == 1 ? 1 : -1, what);
            }
            CHECK.is(x.bearer(0, 9), 2 * it[2], what);
            x.drop(0);
            CHECK.is(x.seen(0), 0, "without a banner " + what);
        }
    }

    private static void sightAtTheLimits() {
        CHECK.about("REACH and PLACE up to 9999");
        BannerParade x = loaded("parade 1 9999 1 0 1 0;bearer a 1 0;bearer b 1 0;stand left 9999 a"
                + ";stand right 0 a;stand left 9998 a");
        CHECK.is(x.seen(0), 1, "0 from 9999, and not -1");
        CHECK.is(x.seen(1), 3, "0 and -1 from 0");
        CHECK.is(x.seen(2), 3, "0 and -1 from 9998");
        x.set(REACH, 9998);
        CHECK.is(x.seen(0), 0, "REACH 9998");
        BannerParade y = loaded("parade 999 9999 1 0 1 0" + ";bearer a 200 0".repeat(12)
                + ";stand left 0 a;stand right 9999 a");
        CHECK.is(y.seen(0), (1 << 11) - 1, "down to -9990, and not -10989");
        y.tick(99);
        CHECK.is(y.seen(1), (1 << 12) - 1, "19800 down to 8811");
        y.tick(1);
        CHECK.is(y.seen(1), (1 << 12) - 2, "20000 is too far, 19001 is not");
    }

    private static void textsFromBothSides() {
        CHECK.about("from the first one to the last one, from the right side from the last one");
        BannerParade x = loaded("parade 10 20 99 0 1 0;bearer a 1 0;bearer b 1 0;bearer c 1 0"
                + ";bearer d 1 0;stand left 0 a;stand right 0 a;stand left 9999 a");
        CHECK.is(text(x, 0), "abc", "left");
        CHECK.is(text(x, 1), "cba", "right");
        CHECK.is(text(x, 2), "", "none in sight");
        x.drop(1);
        CHECK.is(text(x, 0), "ac", "left");
        CHECK.is(text(x, 1), "ca", "right");
        x.drop(0);
        CHECK.is(text(x, 0), "c", "one");
        x.drop(2);
        CHECK.is(text(x, 0), "", "none");
        x.set(REACH, 30);
        CHECK.is(text(x, 1), "d", "the last one");
    }

    private static void blanks() {
        CHECK.about("a blank if their places differ by more than WIDE");
        BannerParade x = loaded("parade 10 99 10 0 1 0;bearer a 1 0;bearer b 1 0;bearer c 1 0"
                + ";stand left 0 a;stand right 0 a");
        CHECK.is(text(x, 0), "abc", "10 apart, WIDE 10");
        CHECK.is(text(x, 1), "cba", "10 apart, WIDE 10");
        x.set(WIDE, 9);
        CHECK.is(text(x, 0), "a b c", "10 apart, WIDE 9");
        CHECK.is(text(x, 1), "c b a", "10 apart, WIDE 9");
        CHECK.about("between two of them, one next to the other in this text");
        x.drop(1);
        CHECK.is(text(x, 0), "a c", "20 apart, WIDE 9");
        x.set(WIDE, 20);
        CHECK.is(text(x, 0), "ac", "20 apart, WIDE 20");
        CHECK.is(text(x, 1), "ca", "20 apart, WIDE 20");
        x.set(WIDE, 19);
        CHECK.is(text(x, 0), "a c", "20 apart, WIDE 19");
        BannerParade y = loaded("parade 1 9999 1 0 1 0;bearer a 1 0;bearer b 1 0;bearer c 3 0"
                + ";stand left 0 a;stand right 0 a");
        y.strengthen(1, -50);
        y.tick(1);
        CHECK.is(text(y, 0), "a bc", "1, -1 and -2: 2 is more than WIDE, 1 is not");
        CHECK.is(text(y, 1), "cb a", "from the right side");
        BannerParade z = loaded("parade 999 9999 9999 0 1 0;bearer a 200 0;bearer b 1 0"
                + ";stand left 4000 a");
        z.strengthen(1, -1);
        z.tick(45);
        CHECK.is(text(z, 0), "ab", "9999 apart, WIDE 9999");
        z.tick(1);
        CHECK.is(text(z, 0), "a b", "10199 apart, WIDE 9999");
    }
}

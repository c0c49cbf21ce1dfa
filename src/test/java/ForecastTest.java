/** Promises 37 to 48: what would be. */
public final class ForecastTest {
    private static final Check CHECK = new Check();
    // Bearer 0 is at 10 per tick, bearer 1 at -10 and 5 more per tick; no strength goes.
    private static final String WALK = "parade 10 5 20 0 1 10;bearer a 10 0;bearer b 5 0"
            + ";stand left 50 a;stand right 40 b;stand left 0 ab;stand left 3000 z";
    // 100, 80, 60, 40, 20, 0: places 10, 18, 24, 28, 30, where it drops its banner at tick 5.
    private static final String TIRE = "parade 10 5 20 0 50 10;bearer a 10 20";

    public static void main(String[] args) {
        readsIn();
        passedIn();
        placeIn();
        strengthIn();
        bannerIn();
        drops();
        shareIn();
        bestShare();
        bestSwap();
        closedIn();
        leastRest();
        nothingChanges();
        beyondTheGreatestTime();
        CHECK.end();
    }

    private static void readsIn() {
        CHECK.about("promise 37");
        BannerParade x = Check.loaded(WALK);
        int[] want = {5, 9, -1, -1};
        for (int s = 0; s < 4; s++) {
            CHECK.is(x.readsIn(s), want[s], "readsIn(" + s + ")");
        }
        CHECK.is(x.tick(5), 1, "tick");
        CHECK.is(x.readsIn(0), 0, "readsIn(0) now");
        x.tick(1);
        CHECK.is(x.readsIn(0), -1, "readsIn(0) behind it");
        BannerParade y = Check.loaded("parade 1 5 9 0 1 0;bearer a 1 0;stand left 305 a"
                + ";stand left 306 a;stand left 5 a;stand left 6 a");
        int[] far = {300, -1, 0, 1};
        for (int s = 0; s < 4; s++) {
            CHECK.is(y.readsIn(s), far[s], "readsIn(" + s + ") with 1 per tick");
        }
        y.tick(1);
        CHECK.is(y.readsIn(1), 300, "readsIn(1) behind a tick");
        CHECK.is(y.readsIn(2), 0, "readsIn(2), read already");
        // the swap that is planned brings the letter b to bearer 0
        BannerParade z = Check.loaded("parade 10 5 20 0 1 10;bearer a 10 0;bearer b 5 0"
                + ";stand left 20 b;stand left 10 b;plan 1 0");
        CHECK.is(z.readsIn(0), 2, "readsIn(0) with a plan");
        CHECK.is(z.readsIn(1), 1, "readsIn(1) with a plan");
        CHECK.fails(Check.INDEX, "readsIn(-1)", () -> z.readsIn(-1));
        CHECK.fails(Check.INDEX, "readsIn(2)", () -> z.readsIn(2));
    }

    private static void passedIn() {
        CHECK.about("promise 38");
        BannerParade x = Check.loaded(WALK);
        // bearer 1 at -10 + 5 t, greater than 55, 45, 5, 3005
        int[] want = {14, 12, 4, -1};
        for (int s = 0; s < 4; s++) {
            CHECK.is(x.passedIn(s), want[s], "passedIn(" + s + ")");
        }
        x.tick(4);
        CHECK.is(x.passedIn(2), 0, "passedIn(2) now");
        BannerParade y = Check.loaded("parade 1 5 9 0 1 0;bearer a 1 0;stand left 294 a"
                + ";stand left 295 a");
        CHECK.is(y.passedIn(0), 300, "passedIn(0) with 1 per tick");
        CHECK.is(y.passedIn(1), -1, "passedIn(1) with 1 per tick");
        BannerParade z = Check.loaded("parade 1 5 9 0 1 0;stand left 294 a");
        CHECK.is(z.passedIn(0), 0, "passedIn without bearers: all of none");
        CHECK.fails(Check.INDEX, "passedIn(-1)", () -> z.passedIn(-1));
        CHECK.fails(Check.INDEX, "passedIn(1)", () -> z.passedIn(1));
    }

    private static void placeIn() {
        CHECK.about("promise 39");
        BannerParade x = Check.loaded(WALK);
        for (int ticks : new int[] {0, 1, 7, 300}) {
            CHECK.is(x.placeIn(0, ticks), 10 * ticks, "placeIn(0, " + ticks + ")");
            CHECK.is(x.placeIn(1, ticks), 5 * ticks - 10, "placeIn(1, " + ticks + ")");
        }
        int[] tiring = {0, 10, 18, 24, 28, 30, 30, 30};
        BannerParade y = Check.loaded(TIRE);
        for (int ticks = 0; ticks < tiring.length; ticks++) {
            CHECK.is(y.placeIn(0, ticks), tiring[ticks], "placeIn(0, " + ticks + ")");
        }
        CHECK.fails(Check.INDEX, "placeIn(-1, 0)", () -> x.placeIn(-1, 0));
        CHECK.fails(Check.INDEX, "placeIn(2, 301)", () -> x.placeIn(2, 301));
        CHECK.fails(Check.ARGUMENT, "placeIn(0, -1)", () -> x.placeIn(0, -1));
        CHECK.fails(Check.ARGUMENT, "placeIn(1, 301)", () -> x.placeIn(1, 301));
    }

    private static void strengthIn() {
        CHECK.about("promise 40");
        BannerParade x = Check.loaded(TIRE + ";bearer b 200 1");
        int[] first = {100, 80, 60, 40, 20, 0, 0};
        int[] second = {100, 99, 98, 97, 96, 95, 95};
        for (int ticks = 0; ticks < first.length; ticks++) {
            CHECK.is(x.strengthIn(0, ticks), first[ticks], "strengthIn(0, " + ticks + ")");
            CHECK.is(x.strengthIn(1, ticks), second[ticks], "strengthIn(1, " + ticks + ")");
        }
        x.set(3, 7);
        CHECK.is(x.strengthIn(0, 6), 7, "strengthIn(0, 6) with REST");
        CHECK.is(x.strengthIn(1, 6), 100, "strengthIn(1, 6) with REST");
        x.addPlan(1, 0);
        CHECK.is(x.strengthIn(0, 1), 78, "strengthIn(0, 1) with a plan");
        CHECK.fails(Check.INDEX, "strengthIn(-1, 0)", () -> x.strengthIn(-1, 0));
        CHECK.fails(Check.INDEX, "strengthIn(2, 301)", () -> x.strengthIn(2, 301));
        CHECK.fails(Check.ARGUMENT, "strengthIn(0, -1)", () -> x.strengthIn(0, -1));
        CHECK.fails(Check.ARGUMENT, "strengthIn(1, 301)", () -> x.strengthIn(1, 301));
    }

    private static void bannerIn() {
        CHECK.about("promise 41");
        BannerParade x = Check.loaded(TIRE + ";bearer b 200 1;plan 2 0");
        int[] first = {1, 1, 2, 2, 2, 0, 0};
        for (int ticks = 0; ticks < first.length; ticks++) {
            CHECK.is(x.bannerIn(0, ticks), first[ticks], "bannerIn(0, " + ticks + ")");
        }
        CHECK.is(x.bannerIn(1, 300), 1, "bannerIn(1, 300)");
        x.drop(1);
        CHECK.is(x.bannerIn(1, 0), 0, "bannerIn(1, 0) of none");
        CHECK.is(x.bannerIn(1, 1), 2, "bannerIn(1, 1) picks up where it was");
        CHECK.fails(Check.INDEX, "bannerIn(-1, 0)", () -> x.bannerIn(-1, 0));
        CHECK.fails(Check.INDEX, "bannerIn(2, 301)", () -> x.bannerIn(2, 301));
        CHECK.fails(Check.ARGUMENT, "bannerIn(0, -1)", () -> x.bannerIn(0, -1));
        CHECK.fails(Check.ARGUMENT, "bannerIn(1, 301)", () -> x.bannerIn(1, 301));
    }

    private static void drops() {
        CHECK.about("promises 42 and 43");
        BannerParade x = Check.loaded(TIRE);
        CHECK.is(x.dropsIn(0), 0, "dropsIn(0)");
        CHECK.is(x.dropsIn(4), 0, "dropsIn(4)");
        CHECK.is(x.dropsIn(5), 1, "dropsIn(5)");
        CHECK.is(x.dropsIn(300), 1, "dropsIn(300)");
        CHECK.is(x.firstDrop(), 5, "firstDrop()");
        x.tick(4);
        CHECK.is(x.firstDrop(), 1, "firstDrop() at 4");
        x.tick(1);
        CHECK.is(x.firstDrop(), -1, "firstDrop() behind it");
        CHECK.is(x.dropsIn(300), 0, "dropsIn(300) behind it");
        // With REST 50 and LIFT 50 the banner is picked up at tick 6 and dropped at tick 9.
        x.undo();
        x.set(3, 50);
        CHECK.is(x.dropsIn(5), 2, "dropsIn(5): at ticks 5 and 9");
        CHECK.fails(Check.ARGUMENT, "dropsIn(-1)", () -> x.dropsIn(-1));
        CHECK.fails(Check.ARGUMENT, "dropsIn(301)", () -> x.dropsIn(301));
        BannerParade y = twoThatDropAt(300);
        CHECK.is(y.firstDrop(), 300, "firstDrop() at 300");
        CHECK.is(y.dropsIn(299), 0, "dropsIn(299)");
        CHECK.is(y.dropsIn(300), 2, "dropsIn(300)");
        CHECK.is(twoThatDropAt(301).firstDrop(), -1, "firstDrop() at 301");
        CHECK.is(Check.loaded("parade 1 0 1 0 1 0").firstDrop(), -1, "no bearers");
        CHECK.is(Check.loaded("parade 1 0 1 0 1 0").dropsIn(300), 0, "no bearers");
    }

    /** Two bearers that stand with the strength 2, which a planned swap takes from them. */
    private static BannerParade twoThatDropAt(int time) {
        BannerParade x = Check.loaded("parade 10 0 1 0 100 10;bearer a 1 1;bearer b 1 1;plan "
                + time + " 0");
        x.strengthen(0, -98);
        x.strengthen(1, -98);
        return x;
    }

    private static void shareIn() {
        CHECK.about("promise 44");
        BannerParade x = Check.loaded(WALK);
        // stand 0 at 50 sees a at tick 5, b at ticks 11 to 13; stand 2 at 0 sees a at first
        float[][] want = {{0f, 0f, 0f, 0f}, {.5f, 0f, 0f, 0f}};
        int[] ticks = {0, 1, 12, 300};
        for (int k = 0; k < 4; k++) {
            CHECK.is(x.shareIn(0, ticks[k]), want[0][k], "shareIn(0, " + ticks[k] + ")");
            CHECK.is(x.shareIn(2, ticks[k]), want[1][k], "shareIn(2, " + ticks[k] + ")");
        }
        CHECK.is(x.shareIn(0, 5), 1f, "shareIn(0, 5)");
        CHECK.fails(Check.INDEX, "shareIn(-1, 0)", () -> x.shareIn(-1, 0));
        CHECK.fails(Check.INDEX, "shareIn(4, 301)", () -> x.shareIn(4, 301));
        CHECK.fails(Check.ARGUMENT, "shareIn(0, -1)", () -> x.shareIn(0, -1));
        CHECK.fails(Check.ARGUMENT, "shareIn(3, 301)", () -> x.shareIn(3, 301));
    }

    private static void bestShare() {
        CHECK.about("promise 45");
        BannerParade x = Check.loaded(WALK);
        CHECK.is(x.bestShare(0, 0), 0f, "bestShare(0, 0)");
        CHECK.is(x.bestShare(0, 4), 0f, "bestShare(0, 4)");
        CHECK.is(x.bestShare(0, 5), 1f, "bestShare(0, 5)");
        CHECK.is(x.bestShare(0, 300), 1f, "bestShare(0, 300)");
        CHECK.is(x.bestShare(2, 0), .5f, "bestShare(2, 0)");
        CHECK.is(x.bestShare(2, 300), .5f, "bestShare(2, 300): now");
        CHECK.is(x.bestShare(3, 300), 0f, "bestShare(3, 300)");
        CHECK.fails(Check.INDEX, "bestShare(-1, 0)", () -> x.bestShare(-1, 0));
        CHECK.fails(Check.INDEX, "bestShare(4, 301)", () -> x.bestShare(4, 301));
        CHECK.fails(Check.ARGUMENT, "bestShare(0, -1)", () -> x.bestShare(0, -1));
        CHECK.fails(Check.ARGUMENT, "bestShare(3, 301)", () -> x.bestShare(3, 301));
    }

    private static void bestSwap() {
        CHECK.about("promise 46");
        String row = "parade 10 30 20 0 1 0;bearer a 10 0;bearer b 10 0;bearer c 10 0;bearer d 9 9";
        BannerParade x = Check.loaded(row + ";stand left 0 abdc;stand left 0 bacd"
                + ";stand left 0 abcd;stand left 500 a;stand left 0 xxba;stand right 0 dbca");
        int[] want = {2, 0, -1, -1, 1, 1};
        for (int s = 0; s < 6; s++) {
            CHECK.is(x.bestSwap(s), want[s], "bestSwap(" + s + ")");
        }
        x.strengthen(0, -100);
        CHECK.is(x.bestSwap(1), 0, "whatever their strength and distance (NEAR is 0)");
        x.drop(0);
        CHECK.is(x.bestSwap(1), 2, "bestSwap(1) of the rest: b, d, c");
        BannerParade y = Check.loaded(row + ";stand left 0 bxax;stand left 5 bac;stand left 0 ax"
                + ";stand left 0 bacd");
        CHECK.is(y.bestSwap(0), 0, "bestSwap(0): b by exchange 0, not the a of 1");
        CHECK.is(y.bestSwap(1), 0, "bestSwap(1)");
        CHECK.is(y.bestSwap(2), -1, "bestSwap(2): 1 / 4 at best, as now");
        y.set(1, 0);
        CHECK.is(y.bestSwap(3), 0, "bestSwap(3) of one that is seen");
        BannerParade z = Check.loaded("parade 10 30 20 0 1 0;bearer a 10 0;stand left 0 ab");
        CHECK.is(z.bestSwap(0), -1, "one bearer");
        CHECK.fails(Check.INDEX, "bestSwap(-1)", () -> z.bestSwap(-1));
        CHECK.fails(Check.INDEX, "bestSwap(1)", () -> z.bestSwap(1));
        BannerParade w = Check.loaded(row + ";stand left 0 bbbb");
        CHECK.is(w.bestSwap(0), -1, "none is greater");
        BannerParade v = Check.loaded("parade 10 5 20 0 1 0;bearer a 1 0;bearer b 1 0;bearer c 1 0"
                + ";stand right 0 b");
        v.drop(1);
        CHECK.is(v.bestSwap(0), -1, "b lies");
        v.undo();
        CHECK.is(v.bestSwap(0), 0, "b comes into sight");
        v.drop(0);
        CHECK.is(v.bestSwap(0), 0, "also if one of them carries none");
        BannerParade u = Check.loaded(row + ";stand left 0 badc");
        CHECK.is(u.bestSwap(0), 0, "of several the smallest one");
    }

    private static void closedIn() {
        CHECK.about("promise 47");
        BannerParade x = Check.loaded("parade 10 5 20 0 1 10;bearer a 10 0;bearer b 12 0"
                + ";bearer c 1 0");
        CHECK.is(x.closedIn(0), -1, "closedIn(0)");
        CHECK.is(x.closedIn(1), 0, "closedIn(1) now");
        x.set(0, 4);
        CHECK.is(x.closedIn(1), 3, "closedIn(1): 10, 8, 6, 4");
        CHECK.is(x.closedIn(2), -1, "closedIn(2)");
        x.set(0, 5);
        CHECK.is(x.closedIn(1), 3, "closedIn(1): 10, 8, 6, 5");
        x.set(0, 20);
        // it stands till the one ahead has gone 10 and then stays 20 behind
        CHECK.is(x.closedIn(1), 1, "closedIn(1), less than SPACE now");
        x.set(0, 13);
        CHECK.is(x.closedIn(1), 1, "closedIn(1): 10, 13");
        CHECK.is(x.closedIn(2), -1, "closedIn(2): 10, 12 and more, not less");
        BannerParade y = Check.loaded("parade 310 5 20 0 1 10;bearer a 1 0;bearer b 2 0");
        y.set(0, 10);
        CHECK.is(y.closedIn(1), 300, "closedIn(1) in 300");
        y.set(0, 9);
        CHECK.is(y.closedIn(1), -1, "closedIn(1) in 301");
        CHECK.fails(Check.INDEX, "closedIn(-1)", () -> y.closedIn(-1));
        CHECK.fails(Check.INDEX, "closedIn(2)", () -> y.closedIn(2));
    }

    private static void leastRest() {
        CHECK.about("promise 48");
        CHECK.is(Check.loaded(TIRE).leastRest(), -1, "none");
        CHECK.is(Check.loaded(WALK).leastRest(), 0, "0");
        BannerParade x = twoThatDropAt(100);
        CHECK.is(x.leastRest(), 1, "1: what a swap at tick 100 takes");
        x.set(3, 50);
        CHECK.is(x.leastRest(), 1, "REST now does not matter");
        CHECK.is(x.setting(3), 50, "REST stays");
        CHECK.is(twoThatDropAt(101).leastRest(), 0, "tick 101 does not matter");
        BannerParade y = Check.loaded("parade 1 0 1 0 1 0;bearer a 200 0;bearer b 200 1");
        CHECK.is(y.leastRest(), -1, "dropped at tick 100");
        y.set(0, 300);
        CHECK.is(y.leastRest(), 0, "dropped at tick 101");
        // bearer 1 rests in tick 1 alone and then loses 1 in each tick
        y.strengthen(1, -50);
        CHECK.is(y.leastRest(), 50, "with 100 behind tick 1");
        y.strengthen(1, -1);
        CHECK.is(y.leastRest(), -1, "51 would be needed");
        // bearer 0 drops its banner if it comes to have just 20; with REST 4 it has 22 and then 2,
        // 6, 10 and so on; with REST 0 the swap makes the other two drop theirs
        BannerParade z = Check.loaded("parade 10 0 1 0 1 10;bearer a 5 20;bearer b 1 0"
                + ";bearer c 1 0;plan 1 1");
        z.strengthen(0, -90);
        z.strengthen(1, -98);
        z.strengthen(2, -98);
        CHECK.is(z.leastRest(), 4, "REST 1, 2 and 3 come to 20");
        CHECK.is(Check.loaded("parade 1 0 1 9 1 0").leastRest(), 0, "no bearers");
    }

    private static void nothingChanges() {
        CHECK.about("promises 37 to 48, nothing is changed");
        BannerParade x = Check.loaded(TIRE + ";bearer b 200 1;stand left 18 a;plan 9 0");
        String before = Whole.state(x);
        x.readsIn(0);
        x.passedIn(0);
        x.placeIn(0, 300);
        x.strengthIn(0, 300);
        x.bannerIn(0, 300);
        x.dropsIn(300);
        x.firstDrop();
        x.shareIn(0, 300);
        x.bestShare(0, 300);
        x.bestSwap(0);
        x.closedIn(1);
        x.leastRest();
        CHECK.is(Whole.state(x), before, "all that there is");
        CHECK.is(x.undoable(), 0, "undoable()");
    }

    private static void beyondTheGreatestTime() {
        CHECK.about("the time may be greater than 5000 in it");
        BannerParade x = Check.loaded(WALK);
        for (int k = 0; k < 50; k++) {
            x.tick(100);
        }
        CHECK.is(x.count(3), 5000, "count(3)");
        CHECK.is(x.placeIn(0, 300), 53000, "placeIn(0, 300)");
        CHECK.is(x.strengthIn(1, 300), 100, "strengthIn(1, 300)");
        CHECK.is(x.firstDrop(), -1, "firstDrop()");
    }
}

import java.util.function.Function;

/** The boundary cases of promises 37 to 48. */
public final class ForecastEdgesTest {
    private static final Check CHECK = new Check();
    private static final int SPACE = 0;
    private static final int REACH = 1;
    private static final int REST = 3;
    /** SPACE 10, REACH 5, WIDE 20, REST 0, LIFT 100, NEAR 10. */
    private static final String HEAD = "parade 10 5 20 0 100 10";
    /** Goes 1 on in each tick. */
    private static final String SLOW = HEAD + ";bearer a 1 0";
    /** Both stand, for they have less than 100 when they have less strength. */
    private static final String PAIR = HEAD + ";bearer a 1 1;bearer b 1 1";

    public static void main(String[] args) {
        readsIn();
        readsInWithPlans();
        passedIn();
        placeIn();
        strengthIn();
        bannerIn();
        dropsIn();
        firstDrop();
        shareIn();
        bestShare();
        bestSwap();
        bestSwapOfNone();
        closedIn();
        leastRest();
        leastRestWithin100();
        timeBeyond5000();
        nothingIsChanged();
        CHECK.end();
    }

    private static BannerParade loaded(String text) {
        return Check.loaded(text);
    }

    /** Both bearers stand with the strength 2, and drop their banners at a time: a swap takes it. */
    private static BannerParade dropAt(int time) {
        BannerParade x = loaded(PAIR + ";plan " + time + " 0");
        x.strengthen(0, -98);
        x.strengthen(1, -98);
        return x;
    }

    private static void readsIn() {
        CHECK.about("promise 37: 0 if it reads it now; NONE if it does not within 300 ticks");
        BannerParade x = loaded(SLOW + ";stand left 0 a;stand left 5 a;stand left 6 a"
                + ";stand left 305 a;stand left 306 a;stand left 5 b");
        int[] want = {0, 0, 1, 300, -1, -1};
        for (int s = 0; s < 6; s++) {
            CHECK.is(x.readsIn(s), want[s], "readsIn(" + s + ")");
        }
        x.tick(1);
        CHECK.is(x.readsIn(4), 300, "behind a tick");
        x.tick(4);
        CHECK.is(x.readsIn(0), 0, "at 5 from 0");
        x.tick(1);
        CHECK.is(x.readsIn(0), -1, "at 6 from 0");
        CHECK.about("promise 37: whether it was read earlier or not");
        CHECK.is(x.stand(2, 3), 1, "it was read at 1");
        CHECK.is(x.readsIn(2), 0, "it reads it now");
        x.drop(0);
        CHECK.is(x.readsIn(2), 1, "it reads it again when the banner is picked up");
        CHECK.is(loaded(HEAD + ";stand left 0 a").readsIn(0), -1, "without bearers");
    }

    private static void readsInWithPlans() {
        CHECK.about("the plans come in them, too");
        BannerParade x = loaded(PAIR + ";stand left 0 b;plan 300 0");
        x.strengthen(0, -1);
        x.strengthen(1, -1);
        CHECK.is(x.readsIn(0), 300, "a plan for 300");
        BannerParade y = loaded(PAIR + ";stand left 0 b;plan 301 0");
        y.strengthen(0, -1);
        y.strengthen(1, -1);
        CHECK.is(y.readsIn(0), -1, "a plan for 301");
        CHECK.is(y.bannerIn(0, 300), 1, "behind 300");
        y.tick(1);
        CHECK.is(y.readsIn(0), 300, "a plan for 301 at 1");
        CHECK.is(y.bannerIn(0, 300), 2, "behind 301");
        CHECK.is(y.plan(0, 2), 0, "it is still to come");
    }

    private static void passedIn() {
        CHECK.about("promise 38: greater than the place of a stand plus REACH; 0; NONE");
        BannerParade x = loaded(SLOW + ";stand left 0 a;stand left 294 a;stand left 295 a"
                + ";stand left 9999 a");
        int[] want = {6, 300, -1, -1};
        for (int s = 0; s < 4; s++) {
            CHECK.is(x.passedIn(s), want[s], "passedIn(" + s + ")");
        }
        x.tick(5);
        CHECK.is(x.passedIn(0), 1, "at 5");
        x.tick(1);
        CHECK.is(x.passedIn(0), 0, "at 6");
        x.drop(0);
        CHECK.is(x.passedIn(0), 0, "without a banner");
        x.set(REACH, 6);
        CHECK.is(x.passedIn(0), 1, "with REACH 6");
        BannerParade y = loaded(HEAD + ";bearer a 10 0;bearer b 10 0;stand left 0 a");
        CHECK.is(y.passedIn(0), 2, "all bearers: the second one is at 10 behind 2");
        y.strengthen(1, -100);
        CHECK.is(y.passedIn(0), -1, "all bearers: the second one stands");
        CHECK.is(loaded(HEAD + ";stand left 0 a").passedIn(0), 0, "all of none are there");
    }

    private static void placeIn() {
        CHECK.about("promise 39: 0 to 300 ticks");
        BannerParade x = loaded(HEAD + ";bearer a 2 0;bearer b 1 0");
        for (int ticks : new int[] {0, 1, 2, 299, 300}) {
            CHECK.is(x.placeIn(0, ticks), 2 * ticks, "placeIn(0, " + ticks + ")");
            CHECK.is(x.placeIn(1, ticks), ticks - 10, "placeIn(1, " + ticks + ")");
        }
        x.tick(100);
        CHECK.is(x.placeIn(0, 0), 200, "now");
        CHECK.is(x.placeIn(0, 300), 800, "behind 300");
    }

    private static void strengthIn() {
        CHECK.about("promise 40: 0 to 300 ticks");
        BannerParade x = loaded("parade 10 5 20 1 100 10;bearer a 1 0;bearer b 1 0;plan 300 0");
        x.strengthen(0, -100);
        x.strengthen(1, -100);
        int[] ticks = {0, 1, 99, 100, 299, 300};
        int[] want = {0, 1, 99, 100, 100, 99};
        for (int k = 0; k < ticks.length; k++) {
            CHECK.is(x.strengthIn(0, ticks[k]), want[k], "strengthIn(0, " + ticks[k] + ")");
            CHECK.is(x.strengthIn(1, ticks[k]), want[k], "strengthIn(1, " + ticks[k] + ")");
        }
        CHECK.is(x.bearer(0, 4), 0, "now");
    }

    private static void bannerIn() {
        CHECK.about("promise 41: 0 to 300 ticks; 0 if it carries none then");
        BannerParade x = dropAt(300);
        CHECK.is(x.bannerIn(0, 0), 1, "now");
        CHECK.is(x.bannerIn(0, 299), 1, "behind 299");
        CHECK.is(x.bannerIn(0, 300), 0, "behind 300");
        x.strengthen(0, 1);
        CHECK.is(x.bannerIn(0, 300), 2, "behind 300, with 3");
        CHECK.is(x.bannerIn(1, 300), 0, "behind 300, with 2");
        x.drop(0);
        CHECK.is(x.bannerIn(0, 0), 0, "now");
        CHECK.is(x.bannerIn(0, 1), 0, "with less than LIFT");
        x.set(4, 3);
        CHECK.is(x.bannerIn(0, 1), 1, "with LIFT");
        BannerParade z = loaded(HEAD + ";bearer z 1 0");
        CHECK.is(z.bannerIn(0, 300), 26, "the letter z");
    }

    private static void dropsIn() {
        CHECK.about("promise 42: 0 to 300 ticks");
        BannerParade x = dropAt(300);
        CHECK.is(x.dropsIn(0), 0, "dropsIn(0)");
        CHECK.is(x.dropsIn(299), 0, "dropsIn(299)");
        CHECK.is(x.dropsIn(300), 2, "dropsIn(300)");
        CHECK.is(dropAt(301).dropsIn(300), 0, "one tick later");
        x.drop(0);
        CHECK.is(x.dropsIn(0), 0, "those that are done do not count");
        CHECK.is(x.dropsIn(300), 1, "one is left");
        BannerParade y = loaded("parade 10 5 20 50 50 10;bearer a 100 20");
        // 80, 60, 40, 20, 0, then 50 and so on: dropped at 5, 9, 13 and so on
        CHECK.is(y.dropsIn(4), 0, "dropsIn(4)");
        CHECK.is(y.dropsIn(5), 1, "dropsIn(5)");
        CHECK.is(y.dropsIn(8), 1, "dropsIn(8)");
        CHECK.is(y.dropsIn(9), 2, "dropsIn(9): the same one again");
        CHECK.is(y.dropsIn(300), 1 + 295 / 4, "dropsIn(300)");
        CHECK.is(loaded(HEAD).dropsIn(300), 0, "without bearers");
        BannerParade z = loaded(HEAD + ";bearer a 1 0".repeat(12));
        for (int b = 0; b < 12; b++) {
            z.strengthen(b, -100);
        }
        CHECK.is(z.dropsIn(0), 0, "now");
        CHECK.is(z.dropsIn(1), 12, "twelve at once");
        CHECK.is(z.dropsIn(300), 12, "and then none");
    }

    private static void firstDrop() {
        CHECK.about("promise 43: at least 1; NONE if none is dropped within 300 ticks");
        CHECK.is(dropAt(1).firstDrop(), 1, "in 1");
        CHECK.is(dropAt(300).firstDrop(), 300, "in 300");
        CHECK.is(dropAt(301).firstDrop(), -1, "in 301");
        BannerParade x = dropAt(301);
        x.tick(1);
        CHECK.is(x.firstDrop(), 300, "behind a tick");
        x.strengthen(0, -100);
        CHECK.is(x.firstDrop(), 1, "it has no strength now");
        x.drop(0);
        CHECK.is(x.firstDrop(), -1, "it carries none; the plan is missed");
        x.drop(1);
        CHECK.is(x.firstDrop(), -1, "none is carried");
        x.undo();
        x.undo();
        x.set(REST, 1);
        CHECK.is(x.firstDrop(), -1, "it has 1 ahead of the drops");
        CHECK.is(loaded(HEAD).firstDrop(), -1, "without bearers");
    }

    private static void shareIn() {
        CHECK.about("promise 44: 0 to 300 ticks");
        BannerParade x = loaded(SLOW + ";stand left 0 a;stand left 305 aa;stand left 306 a");
        float[][] want = {{1f, 1f, 0f, 0f}, {0f, 0f, 0f, .5f}, {0f, 0f, 0f, 0f}};
        int[] ticks = {0, 5, 6, 300};
        for (int s = 0; s < 3; s++) {
            for (int k = 0; k < 4; k++) {
                CHECK.is(x.shareIn(s, ticks[k]), want[s][k], "shareIn(" + s + ", " + ticks[k] + ")");
            }
        }
        CHECK.is(x.shareIn(1, 299), 0f, "shareIn(1, 299)");
        CHECK.is(loaded(HEAD + ";stand left 0 a").shareIn(0, 300), 0f, "without bearers");
        BannerParade y = loaded(PAIR + ";stand left 0 b;plan 300 0");
        y.strengthen(0, -1);
        y.strengthen(1, -1);
        CHECK.is(y.shareIn(0, 299), 0f, "ahead of a plan");
        CHECK.is(y.shareIn(0, 300), 1f, "behind a plan");
    }

    private static void bestShare() {
        CHECK.about("promise 45: now and behind each number of ticks up to some, 0 to 300");
        BannerParade x = loaded(SLOW + ";stand left 0 a;stand left 305 a;stand left 306 a"
                + ";stand left 6 ab");
        CHECK.is(x.bestShare(0, 0), 1f, "now alone");
        CHECK.is(x.bestShare(0, 300), 1f, "now, and never again behind 5");
        CHECK.is(x.bestShare(1, 299), 0f, "up to 299");
        CHECK.is(x.bestShare(1, 300), 1f, "up to 300");
        CHECK.is(x.bestShare(2, 300), 0f, "not up to 300");
        CHECK.is(x.bestShare(3, 0), 0f, "not now");
        CHECK.is(x.bestShare(3, 1), .5f, "behind 1");
        CHECK.is(x.bestShare(3, 300), .5f, "somewhere between");
        CHECK.is(loaded(HEAD + ";stand left 0 a").bestShare(0, 300), 0f, "without bearers");
    }

    private static void bestSwap() {
        CHECK.about("promise 46: the bearer, which is not the last one; of several the smallest");
        String row = "parade 10 90 20 0 1 0;bearer a 1 0;bearer b 1 0;bearer c 1 0;bearer d 1 0";
        BannerParade x = loaded(row + ";stand left 0 bacd;stand left 0 abdc;stand left 0 badc"
                + ";stand left 0 acbd;stand right 0 cdba;stand right 0 dcab");
        int[] want = {0, 2, 0, 1, 2, 0};
        for (int s = 0; s < 6; s++) {
            CHECK.is(x.bestSwap(s), want[s], "bestSwap(" + s + ")");
        }
        CHECK.about("promise 46: whatever their distance and strength");
        for (int b = 0; b < 4; b++) {
            x.strengthen(b, -100);
        }
        CHECK.is(x.swappers(), 0, "none may swap");
        CHECK.is(x.bestSwap(3), 1, "bestSwap(3)");
        CHECK.about("promise 46: also if one of them carries none");
        BannerParade y = loaded("parade 10 0 20 0 1 0;bearer a 1 0;bearer b 1 0;bearer c 1 0"
                + ";stand left 0 b;stand left 0 a");
        CHECK.is(y.bestSwap(0), 0, "it brings b to 0");
        CHECK.is(y.bestSwap(1), -1, "a is there");
        y.drop(0);
        CHECK.is(y.bestSwap(0), 0, "the one ahead carries none");
        CHECK.is(y.bestSwap(1), -1, "a lies");
        y.pick(0);
        y.drop(1);
        CHECK.is(y.bestSwap(0), -1, "b lies");
        CHECK.is(letters(y), "a-c", "nothing is changed");
        BannerParade z = loaded("parade 10 10 1 0 1 0;bearer a 1 0;bearer b 1 0;bearer c 1 0"
                + ";stand left 0 b");
        z.drop(0);
        CHECK.is(z.bestSwap(0), -1, "b alone is seen now");
        z.drop(1);
        CHECK.is(z.bestSwap(0), -1, "none is seen, and c alone would be");
    }

    private static String letters(BannerParade x) {
        return Check.written(x, x.writeRow());
    }

    private static void bestSwapOfNone() {
        CHECK.about("promise 46: NONE if the share would become greater by none");
        String row = "parade 10 90 20 0 1 0;bearer a 1 0;bearer b 1 0;bearer c 1 0";
        BannerParade x = loaded(row + ";stand left 0 abc;stand left 0 xyz;stand left 0 axx"
                + ";stand left 9999 abc;stand left 0 abx");
        int[] want = {-1, -1, -1, -1, -1};
        for (int s = 0; s < 5; s++) {
            CHECK.is(x.bestSwap(s), want[s], "bestSwap(" + s + ")");
        }
        CHECK.is(loaded(HEAD + ";stand left 0 a").bestSwap(0), -1, "without bearers");
        CHECK.is(loaded(SLOW + ";stand left 0 b").bestSwap(0), -1, "one bearer");
        CHECK.is(loaded(row + ";stand left 0 bxb").bestSwap(0), 0, "from 0 to 1 / 3 by both");
        CHECK.is(loaded(row + ";stand left 0 xcb").bestSwap(0), 1, "by the last one that may be");
        BannerParade full = loaded("parade 1 90 20 0 1 0" + ";bearer a 1 0".repeat(10)
                + ";bearer b 1 0;bearer c 1 0;stand right 0 bc");
        CHECK.is(full.bestSwap(0), 10, "of twelve");
    }

    private static void closedIn() {
        CHECK.about("promise 47: just SPACE, not less; 0 if it is now; NONE for the first bearer");
        BannerParade x = loaded(HEAD + ";bearer a 1 0;bearer b 2 0;bearer c 2 0");
        CHECK.is(x.closedIn(0), -1, "the first bearer");
        CHECK.is(x.closedIn(1) + x.closedIn(2), 0, "now");
        x.set(SPACE, 9);
        CHECK.is(x.closedIn(0), -1, "the first bearer");
        CHECK.is(x.closedIn(1), 1, "in 1");
        CHECK.is(x.closedIn(2), 2, "behind the one ahead");
        x.set(SPACE, 11);
        CHECK.is(x.closedIn(1), 1, "less than SPACE is not it: 10, 11");
        CHECK.about("promise 47: NONE if it is not within 300 ticks");
        BannerParade y = loaded("parade 310 5 20 0 1 10;bearer a 1 0;bearer b 2 0");
        y.set(SPACE, 11);
        CHECK.is(y.closedIn(1), 299, "in 299");
        y.set(SPACE, 10);
        CHECK.is(y.closedIn(1), 300, "in 300");
        y.set(SPACE, 9);
        CHECK.is(y.closedIn(1), -1, "in 301");
        y.tick(1);
        CHECK.is(y.closedIn(1), 300, "behind a tick");
        BannerParade z = loaded(HEAD + ";bearer a 1 0;bearer b 1 0");
        z.strengthen(0, -100);
        z.strengthen(1, -100);
        z.set(SPACE, 11);
        CHECK.is(z.closedIn(1), -1, "it stays less than SPACE");
    }

    private static void leastRest() {
        CHECK.about("promise 48: the least REST, 0 to 50; NONE if there is none");
        CHECK.is(loaded(HEAD).leastRest(), 0, "without bearers");
        CHECK.is(loaded(SLOW).leastRest(), 0, "none is dropped");
        for (int need = 0; need <= 51; need++) {
            BannerParade x = resting(need);
            CHECK.is(x.leastRest(), need <= 50 ? need : -1, "REST " + need + " is needed");
            CHECK.is(x.setting(REST), 7, "REST stays");
            if (need > 0) {
                x.set(REST, Math.min(50, need));
                CHECK.is(x.dropsIn(100), need <= 50 ? 0 : 1, "drops with " + need);
                x.set(REST, need - 1);
                CHECK.is(x.dropsIn(100), 1, "drops with less than " + need);
            }
        }
    }

    /** Bearer 1 stands in tick 1 and then loses 1 in each tick: it needs 100 behind tick 1. */
    private static BannerParade resting(int need) {
        BannerParade x = loaded("parade 10 5 20 7 100 10;bearer a 200 0;bearer b 200 1");
        x.set(SPACE, 210);
        x.strengthen(1, -need);
        return x;
    }

    private static void leastRestWithin100() {
        CHECK.about("promise 48: in the next 100 ticks");
        CHECK.is(dropAt(99).leastRest(), 1, "at 99");
        CHECK.is(dropAt(100).leastRest(), 1, "at 100");
        CHECK.is(dropAt(101).leastRest(), 0, "at 101");
        BannerParade x = dropAt(101);
        x.tick(1);
        CHECK.is(x.leastRest(), 1, "at 101 from 1 on");
    }

    private static void timeBeyond5000() {
        CHECK.about("the time may be greater than 5000 in it");
        // a swap leaves 98, with which they stand for one tick and rest
        BannerParade x = loaded("parade 10 5 20 2 100 10;bearer a 1 0;bearer b 1 0"
                + ";stand left 5303 a;stand left 5304 a;plan 5000 0");
        for (int k = 0; k < 49; k++) {
            x.tick(100);
        }
        x.tick(99);
        CHECK.is(x.placeIn(0, 300), 5298, "from 4999 on");
        CHECK.is(x.bannerIn(0, 0) * 100 + x.bannerIn(0, 1), 102, "the plan for 5000");
        x.tick(1);
        CHECK.is(x.placeIn(0, 300), 5299, "from 5000 on");
        CHECK.is(x.shareIn(0, 299), 0f, "b is there then");
        x.swap(0);
        CHECK.is(x.strengthIn(0, 0) * 1000 + x.strengthIn(0, 300), 98100, "from 5000 on");
        CHECK.is(x.readsIn(0), 300, "from 5000 on");
        CHECK.is(x.readsIn(1), -1, "from 5000 on");
        CHECK.is(x.shareIn(0, 299), 0f, "not yet");
        CHECK.is(x.shareIn(0, 300), 1f, "at 5300");
        CHECK.is(x.bestShare(0, 299) + x.bestShare(0, 300), 1f, "at 5300");
        CHECK.is(x.closedIn(1) + x.passedIn(0), -1, "from 5000 on");
        CHECK.is(x.firstDrop() + x.dropsIn(300), -1, "none is dropped");
        CHECK.is(x.count(3), 5000, "the time");
    }

    private static BannerParade busy() {
        BannerParade x = loaded("parade 10 9 20 3 3 60;bearer a 90 20;bearer b 30 20;bearer c 9 20"
                + ";stand left 300 b;plan 3 0;plan 50 1");
        x.tick(1);
        x.save(0);
        x.drop(2);
        x.writePlaces();
        Check.fill(x, "parade 1 0 1 0 1 0");
        return x;
    }

    private static void keeps(String what, Function<BannerParade, Object> call) {
        CHECK.keepsAll(what, ForecastEdgesTest::busy, call);
    }

    private static void nothingIsChanged() {
        CHECK.about("promises 37 to 48: nothing is changed");
        CHECK.is(busy().dropsIn(300) > 3, true, "much happens");
        keeps("readsIn", x -> x.readsIn(0));
        keeps("passedIn", x -> x.passedIn(0));
        keeps("placeIn", x -> x.placeIn(2, 300));
        keeps("strengthIn", x -> x.strengthIn(2, 300));
        keeps("bannerIn", x -> x.bannerIn(2, 300));
        keeps("dropsIn", x -> x.dropsIn(300));
        keeps("firstDrop", x -> x.firstDrop());
        keeps("shareIn", x -> x.shareIn(0, 300));
        keeps("bestShare", x -> x.bestShare(0, 300));
        keeps("bestSwap", x -> x.bestSwap(0));
        keeps("closedIn", x -> x.closedIn(1));
        keeps("leastRest", x -> x.leastRest());
    }
}

/** As many bearers, stands and plans as there may be, and a small parade loaded behind them. */
public final class FullTest {
    private static final Check CHECK = new Check();
    private static final String FULL = "parade 1 20 3 0 100 1" + ";bearer z 1 0".repeat(12)
            + ";stand left 0 zz".repeat(3) + ";stand right 9 z".repeat(3) + ";plan 1 10".repeat(12);
    private static final int ALL = (1 << 12) - 1;

    public static void main(String[] args) {
        full();
        fullOfLyingBanners();
        smallBehindFull();
        CHECK.end();
    }

    private static void counts(BannerParade x, int... want) {
        for (int what = 0; what < want.length; what++) {
            CHECK.is(x.count(what), want[what], "count(" + what + ")");
        }
    }

    private static void full() {
        CHECK.about("12 bearers, 6 stands, 12 plans");
        BannerParade x = Check.loaded(FULL);
        counts(x, 12, 6, 12, 0, 12, 0, 0, 0, 0, 0, 0, 12, 0, 12, 11, 12, 6);
        CHECK.is(x.holder(26), 0, "holder(26)");
        CHECK.is(x.holder(1), -1, "holder(1)");
        CHECK.is(x.copies(26), 12, "copies(26)");
        CHECK.is(x.tired(100), ALL, "tired(100)");
        CHECK.is(x.tired(99), 0, "tired(99)");
        CHECK.is(x.swappers(), ALL >> 1, "swappers()");
        CHECK.is(x.weakest(), 0, "weakest()");
        CHECK.is(x.widest(), 1, "widest()");
        CHECK.is(x.stretch(), 11, "stretch()");
        CHECK.is(x.seen(5), ALL, "seen(5)");
        CHECK.is(x.seenAt(5, 11), 0, "seenAt(5, 11)");
        CHECK.is(x.seenAt(0, 12), -1, "seenAt(0, 12)");
        CHECK.is(x.writeStand(0), 12, "writeStand(0)");
        CHECK.is(x.stand(5, 6), 9, "stand(5, 6)");
        CHECK.is(x.stand(5, 7), 0, "stand(5, 7)");
        CHECK.is(x.stand(5, 8), 0, "stand(5, 8)");
        CHECK.is(x.bearer(11, 10), 11, "bearer(11, 10)");
        CHECK.is(x.bearer(11, 11), 0, "bearer(11, 11)");
        CHECK.is(x.missing(0), 0, "missing(0)");
        CHECK.is(x.nextPlan(), 0, "nextPlan()");
        CHECK.is(x.bestSwap(0), -1, "bestSwap(0)");
        CHECK.is(x.firstDrop(), -1, "firstDrop()");
        CHECK.is(x.leastRest(), 0, "leastRest()");
        CHECK.is(x.closedIn(11), 0, "closedIn(11)");
        CHECK.is(x.rest(1), 1200, "rest(1)");
        CHECK.is(x.meanStrength(), 100.0, "meanStrength()");
        CHECK.fails(Check.ARGUMENT, "swap(11)", () -> x.swap(11));
        CHECK.fails(Check.INDEX, "swap(12)", () -> x.swap(12));
        CHECK.is(x.swap(10), 26, "swap(10)");
        CHECK.fails(Check.ARGUMENT, "addPlan(9, 0)", () -> x.addPlan(9, 0));
        x.tick(1);
        // all twelve plans were done at once by bearers 10 and 11, with 98 less 24 each
        counts(x, 12, 6, 12, 1, 12, 0, 13, 0, 0, 0, 0, 0);
        CHECK.is(x.bearer(11, 4), 74, "bearer(11, 4)");
        CHECK.is(x.plan(11, 2), 1, "plan(11, 2)");
        CHECK.is(x.passedIn(0), -1, "passedIn(0), for 10 and 11 stand");
    }

    private static void fullOfLyingBanners() {
        CHECK.about("12 banners that lie");
        BannerParade x = Check.loaded(FULL);
        for (int b = 0; b < 12; b++) {
            x.strengthen(b, -100);
        }
        CHECK.is(x.dropsIn(1), 12, "dropsIn(1)");
        CHECK.is(x.tick(1), 0, "tick(1)");
        counts(x, 12, 6, 12, 1, 0, 12, 0, 12, 12, 0, 0, 0, 12, 0, 11, 0, 0);
        for (int b = 0; b < 12; b++) {
            CHECK.is(x.lying(b, 1), -b, "lying(" + b + ", 1)");
            CHECK.is(x.bearer(b, 12), 1, "bearer(" + b + ", 12)");
        }
        CHECK.is(x.copies(26), 12, "copies(26)");
        CHECK.is(x.lyingFrom(-11, 0), 12, "lyingFrom(-11, 0)");
        CHECK.fails(Check.INDEX, "lying(12, 0)", () -> x.lying(12, 0));
        x.rest(100);
        for (int b = 11; b >= 0; b--) {
            CHECK.is(x.pick(b), 26, "pick(" + b + ")");
        }
        CHECK.is(x.count(5), 0, "count(5)");
        CHECK.is(x.count(9), 12, "count(9)");
    }

    private static void smallBehindFull() {
        CHECK.about("a small parade behind a full one");
        BannerParade x = Check.loaded(FULL);
        x.save(0);
        x.rest(1);
        for (int b = 0; b < 12; b++) {
            x.drop(b);
        }
        CHECK.is(Check.load(x, "parade 1 20 3 0 1 9;bearer a 1 0;bearer b 1 0"), 2, "load");
        counts(x, 2, 0, 0, 0, 2, 0, 0, 0, 0, 0, 0, 0, 0, 2, 1, 2, 0);
        CHECK.is(x.holder(26), -1, "holder(26)");
        CHECK.is(x.copies(26), 0, "copies(26)");
        CHECK.is(x.tired(100), 3, "tired(100)");
        CHECK.is(x.swappers(), 1, "swappers()");
        CHECK.is(x.stretch(), 1, "stretch() of two");
        CHECK.is(x.readStands(), 0, "readStands()");
        CHECK.is(x.bestStand(), -1, "bestStand()");
        CHECK.is(x.nextPlan(), -1, "nextPlan()");
        CHECK.is(x.rest(1), 200, "rest(1)");
        CHECK.is(x.writeRow(), 2, "writeRow()");
        CHECK.fails(Check.ARGUMENT, "swap(1)", () -> x.swap(1));
        CHECK.fails(Check.INDEX, "bearer(2, 0)", () -> x.bearer(2, 0));
        CHECK.fails(Check.INDEX, "stand(0, 0)", () -> x.stand(0, 0));
        CHECK.fails(Check.INDEX, "plan(0, 0)", () -> x.plan(0, 0));
        CHECK.fails(Check.INDEX, "lying(0, 0)", () -> x.lying(0, 0));
        CHECK.is(Check.load(x, "parade 1 20 3 0 1 9;stand left 0 a"), 0, "load of a stand alone");
        counts(x, 0, 1, 0, 0, 0, 0, 0, 0, 0, 0, 0, 0, 0, 0, 0, 0, 0);
        CHECK.is(x.wordByte(0, 1), -1, "the word is not the longer one");
        CHECK.is(x.stand(0, 6), -1, "stand(0, 6)");
        CHECK.is(x.stand(0, 7), 0, "stand(0, 7)");
        CHECK.is(x.missing(0), 1, "missing(0)");
        CHECK.is(x.seen(0), 0, "seen(0)");
        CHECK.is(x.weakest(), -1, "weakest()");
        CHECK.is(x.widest(), -1, "widest()");
        CHECK.is(Check.load(x, FULL), 12, "load of the full one again");
        counts(x, 12, 6, 12, 0, 12, 0, 0, 0, 0, 0, 0, 12, 0, 12, 11, 12, 6);
    }
}

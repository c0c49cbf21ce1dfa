/** Promises 15 to 36: what is seen. */
public final class SeenTest {
    private static final Check CHECK = new Check();
    // Places 0, -10, -20, -30; stand 0 and 1 see all, stand 2 sees bearers 1 and 2, stand 3 none.
    private static final String ROW = "parade 10 30 5 5 20 10"
            + ";bearer a 10 0;bearer b 10 0;bearer c 10 0;bearer a 10 0"
            + ";stand left 0 abca;stand right 0 a";

    public static void main(String[] args) {
        seen();
        matchesAndPrefix();
        isRead();
        share();
        missing();
        seenAt();
        blanks();
        letters();
        tired();
        swappers();
        nextPlan();
        lyingFrom();
        bestStand();
        readStands();
        weakest();
        widestAndStretch();
        meanStrength();
        CHECK.end();
    }

    /** As ROW, but with this WIDE and these stands. */
    private static BannerParade row(int wide, String stands) {
        return Check.loaded("parade 10 30 " + wide + " 5 20 10"
                + ";bearer a 10 0;bearer b 10 0;bearer c 10 0;bearer a 10 0" + stands);
    }

    private static void noStands(BannerParade x) {
        int size = x.count(1);
        for (int s : new int[] {-1, size, Integer.MAX_VALUE, Integer.MIN_VALUE}) {
            CHECK.fails(Check.INDEX, "seen", () -> x.seen(s));
            CHECK.fails(Check.INDEX, "matches", () -> x.matches(s));
            CHECK.fails(Check.INDEX, "isRead", () -> x.isRead(s));
            CHECK.fails(Check.INDEX, "share", () -> x.share(s));
            CHECK.fails(Check.INDEX, "shareBits", () -> x.shareBits(s));
            CHECK.fails(Check.INDEX, "missing", () -> x.missing(s));
            CHECK.fails(Check.INDEX, "seenAt", () -> x.seenAt(s, 0));
            CHECK.fails(Check.INDEX, "blanks", () -> x.blanks(s));
            CHECK.fails(Check.INDEX, "prefix", () -> x.prefix(s));
        }
    }

    private static void seen() {
        CHECK.about("promise 15");
        BannerParade x = row(5, ";stand left 0 a;stand right 5 a;stand left 30 a;stand left 31 a");
        CHECK.is(x.seen(0), 15, "seen at REACH");
        CHECK.is(x.seen(1), 7, "seen(1)");
        CHECK.is(x.seen(2), 1, "seen(2)");
        CHECK.is(x.seen(3), 0, "seen(3)");
        x.drop(1);
        CHECK.is(x.seen(0), 13, "seen without a banner");
        x.tick(7);
        CHECK.is(x.seen(0), 0, "seen from behind");
        CHECK.is(x.seen(2), 14, "seen behind 7 ticks, with the banner picked up");
        x.set(1, 0);
        x.tick(1);
        x.tick(1);
        CHECK.is(x.seen(2), 0, "nobody at the place");
        noStands(x);
    }

    private static void matchesAndPrefix() {
        CHECK.about("promises 16 and 23");
        BannerParade x = row(10, ";stand left 0 abca;stand right 0 abca;stand left 0 abbacc"
                + ";stand left 0 b;stand left 500 a;stand left 0 xbca");
        int[] matches = {4, 2, 3, 0, 0, 3};
        int[] prefixes = {4, 1, 2, 0, 0, 0};
        for (int s = 0; s < 6; s++) {
            CHECK.is(x.matches(s), matches[s], "matches(" + s + ")");
            CHECK.is(x.prefix(s), prefixes[s], "prefix(" + s + ")");
        }
        BannerParade y = row(9, ";stand left 0 abca;stand left 0 axbxcx");
        CHECK.is(y.matches(0), 1, "matches with blanks: 'a b c a'");
        CHECK.is(y.matches(1), 3, "matches with blanks");
        CHECK.is(y.prefix(1), 1, "prefix with blanks");
    }

    private static void isRead() {
        CHECK.about("promise 17");
        BannerParade x = row(10, ";stand left 0 abca;stand right 0 acba;stand left 0 abc"
                + ";stand left 0 abcaa;stand left 500 a;stand right 0 abca");
        boolean[] want = {true, true, false, false, false, false};
        for (int s = 0; s < 6; s++) {
            CHECK.is(x.isRead(s), want[s], "isRead(" + s + ")");
        }
        CHECK.is(x.readStands(), 0, "reading now is not having been read");
        x.drop(3);
        CHECK.is(x.isRead(2), true, "isRead(2) of the rest");
        x.set(2, 9);
        CHECK.is(x.isRead(2), false, "isRead(2) with blanks");
    }

    private static void share() {
        CHECK.about("promises 18 and 19");
        BannerParade x = row(10, ";stand left 0 abca;stand right 0 abca;stand left 0 abbacca"
                + ";stand left 0 a;stand left 500 abc;stand left 5 abc");
        float[] want = {1f, 2f / 4f, 3f / 7f, 1f / 4f, 0f, 1f};
        for (int s = 0; s < 6; s++) {
            CHECK.is(x.share(s), want[s], "share(" + s + ")");
            CHECK.is(x.shareBits(s), Float.floatToIntBits(want[s]), "shareBits(" + s + ")");
        }
        CHECK.is(x.shareBits(0), 0x3f800000, "shareBits of 1");
        CHECK.is(x.shareBits(2), 0x3edb6db7, "shareBits of 3 / 7");
        everyShare();
        StringBuilder text = new StringBuilder("parade 2 30 1 0 1 0;stand left 0 a");
        text.append(";bearer a 1 0".repeat(12));
        BannerParade y = Check.loaded(text.toString());
        CHECK.is(y.share(0), 1f / 23f, "share of 12 letters and 11 blanks");
        CHECK.is(y.shareBits(0), Float.floatToIntBits(1f / 23f), "its bits");
    }

    private static void everyShare() {
        for (int bearers = 1; bearers <= 12; bearers++) {
            for (int letters = 1; letters <= 8; letters++) {
                for (int hits = 0; hits <= Math.min(bearers, letters); hits++) {
                    BannerParade x = Check.loaded("parade 1 99 9 0 1 0;stand left 0 "
                            + "a".repeat(hits) + "b".repeat(letters - hits)
                            + ";bearer a 1 0".repeat(bearers));
                    float share = (float) hits / (float) Math.max(bearers, letters);
                    String what = hits + " of " + bearers + " for " + letters;
                    CHECK.is(x.share(0), share, "share " + what);
                    CHECK.is(x.shareBits(0), Float.floatToIntBits(share), "shareBits " + what);
                }
            }
        }
    }

    private static void missing() {
        CHECK.about("promise 20");
        BannerParade x = row(10, ";stand left 0 abca;stand right 500 aaabz;stand left 0 zzzzzzzz"
                + ";stand left 9999 b");
        int[] want = {0, 2, 8, 0};
        for (int s = 0; s < 4; s++) {
            CHECK.is(x.missing(s), want[s], "missing(" + s + ")");
        }
        x.drop(0);
        x.drop(1);
        int[] less = {2, 4, 8, 1};
        for (int s = 0; s < 4; s++) {
            CHECK.is(x.missing(s), less[s], "missing(" + s + ") behind two drops");
        }
    }

    private static void seenAt() {
        CHECK.about("promise 21");
        BannerParade x = row(5, ";stand left 0 a;stand right 0 a;stand right 5 a;stand left 500 a");
        for (int k = 0; k < 4; k++) {
            CHECK.is(x.seenAt(0, k), k, "seenAt(0, " + k + ")");
            CHECK.is(x.seenAt(1, k), 3 - k, "seenAt(1, " + k + ")");
            CHECK.is(x.seenAt(2, k), k < 3 ? 2 - k : -1, "seenAt(2, " + k + ")");
            CHECK.is(x.seenAt(3, k), -1, "seenAt(3, " + k + ")");
        }
        x.drop(1);
        CHECK.is(x.seenAt(0, 1), 2, "seenAt(0, 1) behind a drop");
        CHECK.is(x.seenAt(0, 3), -1, "seenAt(0, 3) behind a drop");
        CHECK.is(x.seenAt(0, -1), -1, "seenAt(0, -1)");
        CHECK.is(x.seenAt(0, Integer.MAX_VALUE), -1, "seenAt(0, greatest)");
        CHECK.is(x.seenAt(0, Integer.MIN_VALUE), -1, "seenAt(0, least)");
    }

    private static void blanks() {
        CHECK.about("promise 22");
        String stands = ";stand left 0 a;stand right 30 a;stand left 500 a";
        BannerParade x = row(9, stands);
        int[] want = {3, 0, 0};
        for (int s = 0; s < 3; s++) {
            CHECK.is(x.blanks(s), want[s], "blanks(" + s + ")");
            CHECK.is(row(10, stands).blanks(s), 0, "blanks(" + s + ") at WIDE");
        }
        x.drop(1);
        CHECK.is(x.blanks(0), 2, "one blank in a wider gap");
        x.set(2, 19);
        CHECK.is(x.blanks(0), 1, "the wider gap alone");
    }

    private static void letters() {
        BannerParade x = row(5, "");
        CHECK.about("promise 24");
        CHECK.is(x.holder(1), 0, "holder(1)");
        CHECK.is(x.holder(3), 2, "holder(3)");
        CHECK.is(x.holder(26), -1, "holder(26)");
        CHECK.is(x.copies(1), 2, "copies(1)");
        x.drop(0);
        CHECK.is(x.holder(1), 3, "holder(1) behind a drop");
        x.drop(3);
        CHECK.is(x.holder(1), -1, "holder(1) of lying ones");
        CHECK.fails(Check.ARGUMENT, "holder(0)", () -> x.holder(0));
        CHECK.fails(Check.ARGUMENT, "holder(27)", () -> x.holder(27));
        CHECK.about("promise 25");
        CHECK.is(x.copies(1), 2, "copies(1) of lying ones");
        CHECK.is(x.copies(2), 1, "copies(2)");
        CHECK.is(x.copies(26), 0, "copies(26)");
        x.pick(0);
        CHECK.is(x.copies(1), 2, "copies(1) of both kinds");
        CHECK.fails(Check.ARGUMENT, "copies(0)", () -> x.copies(0));
        CHECK.fails(Check.ARGUMENT, "copies(27)", () -> x.copies(27));
        BannerParade y = Check.loaded("parade 1 0 1 0 1 0;bearer z 1 0");
        CHECK.is(y.holder(26) + 10 * y.copies(26), 10, "the last letter");
    }

    private static void tired() {
        CHECK.about("promise 26");
        BannerParade x = row(5, "");
        CHECK.is(x.tired(100), 15, "tired(100)");
        CHECK.is(x.tired(99), 0, "tired(99)");
        x.strengthen(1, -50);
        x.strengthen(3, -100);
        CHECK.is(x.tired(50), 10, "tired(50)");
        CHECK.is(x.tired(49), 8, "tired(49)");
        CHECK.is(x.tired(0), 8, "tired(0)");
        CHECK.fails(Check.ARGUMENT, "tired(-1)", () -> x.tired(-1));
        CHECK.fails(Check.ARGUMENT, "tired(101)", () -> x.tired(101));
    }

    private static void swappers() {
        CHECK.about("promise 27");
        BannerParade x = row(5, "");
        CHECK.is(x.swappers(), 7, "swappers() at NEAR");
        x.strengthen(2, -99);
        CHECK.is(x.swappers(), 7, "swappers() with the strength 1");
        x.strengthen(2, -1);
        CHECK.is(x.swappers(), 1, "swappers() with the strength 0");
        x.drop(0);
        x.drop(1);
        CHECK.is(x.swappers(), 1, "swappers() without banners");
        x.set(5, 9);
        CHECK.is(x.swappers(), 0, "swappers() with a less NEAR");
        CHECK.is(Check.loaded("parade 1 0 1 0 1 10;bearer a 1 0").swappers(), 0, "one bearer");
        CHECK.is(Check.loaded("parade 1 0 1 0 1 10").swappers(), 0, "no bearers");
    }

    private static void nextPlan() {
        CHECK.about("promise 28");
        BannerParade x = row(5, ";plan 7 0;plan 3 1;plan 5 2;plan 3 0");
        int[] want = {1, 1, 1, 2, 2, 0, 0, -1};
        for (int time = 0; time < want.length; time++) {
            CHECK.is(x.nextPlan(), want[time], "nextPlan() at " + time);
            x.tick(1);
        }
        CHECK.is(x.addPlan(5000, 0), 4, "addPlan");
        CHECK.is(x.nextPlan(), 4, "nextPlan() of an added one");
        CHECK.is(row(5, "").nextPlan(), -1, "nextPlan() without plans");
    }

    private static void lyingFrom() {
        CHECK.about("promise 29");
        BannerParade x = row(5, "");
        CHECK.is(x.lyingFrom(Integer.MIN_VALUE, Integer.MAX_VALUE), 0, "none lies");
        x.drop(0);
        x.drop(1);
        x.drop(3);
        CHECK.is(x.lyingFrom(Integer.MIN_VALUE, Integer.MAX_VALUE), 3, "all");
        CHECK.is(x.lyingFrom(-10, 0), 2, "both ends");
        CHECK.is(x.lyingFrom(-29, -1), 1, "inside");
        CHECK.is(x.lyingFrom(-9, -1), 0, "between");
        CHECK.is(x.lyingFrom(-30, -30), 1, "one place");
        CHECK.is(x.lyingFrom(0, -30), 0, "from greater than to");
        CHECK.is(x.lyingFrom(Integer.MAX_VALUE, Integer.MIN_VALUE), 0, "greatest to least");
    }

    private static void bestStand() {
        CHECK.about("promise 30");
        CHECK.is(row(10, ";stand left 0 abba;stand left 0 abca;stand left 0 abca").bestStand(), 1,
                "the greatest share, the smallest number");
        CHECK.is(row(10, ";stand left 0 z;stand left 500 a").bestStand(), 0, "all shares 0");
        CHECK.is(row(10, ";stand left 500 a;stand right 0 a").bestStand(), 1, "the last one");
        CHECK.is(row(10, "").bestStand(), -1, "without stands");
        CHECK.is(Check.loaded("parade 1 0 1 0 1 0;stand left 0 a").bestStand(), 0, "no bearers");
    }

    private static void readStands() {
        CHECK.about("promise 31");
        BannerParade x = row(10, ";stand left 0 z;stand left 30 aa;stand left 31 abc"
                + ";stand right 30 acba;stand left 0 z;stand left 10 abca");
        CHECK.is(x.readStands(), 0, "at first");
        CHECK.is(x.tick(1), 1, "tick 1");
        CHECK.is(x.readStands(), 1 << 5, "stand 5: places 10 to -20");
        x.tick(2);
        CHECK.is(x.readStands(), 1 << 5 | 1 << 3 | 1 << 2, "places 30 to 0: stands 2 and 3");
        x.tick(20);
        CHECK.is(x.readStands(), 1 << 5 | 1 << 3 | 1 << 2, "it stays read");
        x.undo();
        x.undo();
        x.undo();
        CHECK.is(x.readStands(), 0, "undone");
    }

    private static void weakest() {
        CHECK.about("promise 32");
        BannerParade x = row(5, "");
        CHECK.is(x.weakest(), 0, "all alike");
        x.strengthen(3, -1);
        CHECK.is(x.weakest(), 3, "the last one");
        x.strengthen(1, -1);
        CHECK.is(x.weakest(), 1, "of several the smallest");
        CHECK.is(Check.loaded("parade 1 0 1 0 1 0").weakest(), -1, "no bearers");
    }

    private static void widestAndStretch() {
        CHECK.about("promises 33 and 34");
        BannerParade x = row(5, "");
        CHECK.is(x.widest(), 1, "widest() of all alike");
        CHECK.is(x.stretch(), 30, "stretch()");
        x.strengthen(3, -50);
        x.tick(1);
        CHECK.is(x.widest(), 3, "widest() of the last one");
        CHECK.is(x.stretch(), 35, "stretch() of places 10 to -25");
        x.strengthen(1, -50);
        x.tick(1);
        // places 20, 5, -5 (stopped by the one ahead), -20
        CHECK.is(x.widest(), 1, "widest() of several");
        CHECK.is(x.stretch(), 40, "stretch()");
        BannerParade one = Check.loaded("parade 1 0 1 0 1 0;bearer a 1 0");
        CHECK.is(one.widest(), -1, "widest() of one");
        CHECK.is(one.stretch(), 0, "stretch() of one");
        CHECK.is(Check.loaded("parade 1 0 1 0 1 0").widest(), -1, "widest() of none");
        CHECK.is(Check.loaded("parade 1 0 1 0 1 0").stretch(), 0, "stretch() of none");
    }

    private static void meanStrength() {
        CHECK.about("promises 35 and 36");
        BannerParade none = Check.loaded("parade 1 0 1 0 1 0");
        CHECK.is(none.meanStrength(), 0.0, "no bearers");
        CHECK.is(none.strengthBits(), 0L, "no bearers");
        for (int bearers = 1; bearers <= 12; bearers++) {
            String text = "parade 1 0 1 0 1 0" + ";bearer a 1 0".repeat(bearers);
            for (int sum = 0; sum <= bearers * 100; sum += 1 + sum / 40) {
                BannerParade x = Check.loaded(text);
                int left = bearers * 100 - sum;
                for (int b = 0; b < bearers; b++) {
                    int less = Math.min(left, 100);
                    x.strengthen(b, -less);
                    left -= less;
                }
                double mean = (double) sum / (double) bearers;
                CHECK.is(x.meanStrength(), mean, "mean of " + sum + " and " + bearers);
                CHECK.is(x.strengthBits(), Double.doubleToLongBits(mean), "bits of " + mean);
            }
        }
    }
}

/** Promises 7 to 14: what there is. */
public final class ThereTest {
    private static final Check CHECK = new Check();
    private static final String ROW = "parade 50 30 40 5 20 60"
            + ";bearer a 40 10;bearer b 30 5;bearer a 20 0;bearer d 9 1";

    public static void main(String[] args) {
        count();
        countOfDrops();
        countOfSwaps();
        setting();
        bearer();
        stand();
        plan();
        lying();
        bytes();
        CHECK.end();
    }

    private static void counts(BannerParade x, String when, int... want) {
        for (int what = 0; what < want.length; what++) {
            CHECK.is(x.count(what), want[what], "count(" + what + ") " + when);
        }
    }

    private static void count() {
        CHECK.about("promise 7");
        BannerParade x = Check.loaded(ROW + ";stand left 0 a;stand right 70 ab;stand left 500 d"
                + ";plan 1 0;plan 2 0;plan 9 2");
        counts(x, "at first", 4, 3, 3, 0, 4, 0, 0, 0, 0, 0, 0, 3, 0, 4, 3, 99, 1);
        // tick 1: swap of 0 and 1 (98 and 98), then 39 and 29 on, 20 on, 9 on; stand 0 sees 1
        x.tick(1);
        counts(x, "behind a tick", 4, 3, 3, 1, 4, 0, 1, 0, 0, 0, 1, 2, 0, 2, 0,
                (int) (40 * .88) + (int) (30 * .93) + 20 + (int) (9 * .99), 1);
        x.strengthen(1, -100);
        CHECK.is(x.count(12), 1, "count(12)");
        // tick 2: no swap with 1; it has 5 then
        x.tick(1);
        counts(x, "behind a missed plan", 4, 3, 3, 2, 4, 0, 1, 1, 0, 0);
        CHECK.is(x.count(12), 0, "count(12)");
        x.drop(3);
        x.drop(0);
        counts(x, "behind two drops", 4, 3, 3, 2, 2, 2, 1, 1, 2, 0);
        CHECK.is(x.count(13), 1, "count(13): bearer 2 alone");
        x.pick(0);
        counts(x, "behind a pick", 4, 3, 3, 2, 3, 1, 1, 1, 2, 1);
        x.set(0, 100);
        CHECK.is(x.count(14), 3, "count(14) with a wider SPACE");
        CHECK.fails(Check.ARGUMENT, "count(-1)", () -> x.count(-1));
        CHECK.fails(Check.ARGUMENT, "count(17)", () -> x.count(17));
        BannerParade y = Check.loaded("parade 50 30 40 5 20 60;bearer a 40 10;bearer a 1 0"
                + ";stand left 0 a;stand right 79 a;stand left 500 a");
        y.drop(1);
        CHECK.is(y.count(16), 1, "count(16) without a banner in reach");
        CHECK.is(y.count(13), 1, "count(13): none is not its own letter");
        CHECK.is(y.swap(0), 0, "swap");
        CHECK.is(y.count(13), 1, "count(13): another one with the same letter");
        CHECK.is(y.tick(1), 0, "tick: place 39 and -50");
        CHECK.is(y.count(10), 0, "count(10)");
        CHECK.is(y.count(14), 0, "count(14)");
    }

    private static void countOfDrops() {
        CHECK.about("promise 7, drops and picks in ticks");
        BannerParade x = Check.loaded("parade 50 30 40 20 20 60;bearer a 40 20;stand left 39 a");
        x.tick(1);
        CHECK.is(x.count(10), 1, "count(10)");
        // 80, 60, 40, 20, 0: dropped at tick 5; 20 at tick 6: picked up where it stands
        x.tick(4);
        counts(x, "behind 5 ticks", 1, 1, 0, 5, 0, 1, 0, 0, 1, 0, 1, 0, 1);
        x.tick(1);
        counts(x, "behind 6 ticks", 1, 1, 0, 6, 1, 0, 0, 0, 1, 1, 1, 0, 0);
        CHECK.is(x.bearer(0, 0), 1, "the banner is back");
    }

    private static void countOfSwaps() {
        CHECK.about("promise 7, swaps without a banner");
        BannerParade x = Check.loaded(ROW + ";plan 1 0");
        x.drop(0);
        x.drop(1);
        x.set(4, 100);
        CHECK.is(x.swap(0), 0, "swap(0) of none");
        CHECK.is(x.count(6), 1, "count(6)");
        x.tick(1);
        CHECK.is(x.count(6), 2, "count(6) behind a plan");
        CHECK.is(x.count(11), 0, "count(11)");
        x.set(5, 0);
        CHECK.fails(Check.ARGUMENT, "swap(0)", () -> x.swap(0));
        CHECK.is(x.count(6), 2, "count(6) behind a swap that is refused");
    }

    private static void setting() {
        CHECK.about("promise 8");
        BannerParade x = Check.loaded("parade 11 22 33 44 55 66");
        for (int what = 0; what < 6; what++) {
            CHECK.is(x.setting(what), 11 * (what + 1), "setting(" + what + ")");
        }
        CHECK.fails(Check.ARGUMENT, "setting(-1)", () -> x.setting(-1));
        CHECK.fails(Check.ARGUMENT, "setting(6)", () -> x.setting(6));
    }

    private static void bearerIs(BannerParade x, int b, int... want) {
        for (int what = 0; what < want.length; what++) {
            CHECK.is(x.bearer(b, what), want[what], "bearer(" + b + ", " + what + ")");
        }
    }

    private static void bearer() {
        CHECK.about("promise 9");
        BannerParade x = Check.loaded(ROW + ";stand left 0 a;stand right 30 ab;stand left 31 d");
        bearerIs(x, 0, 1, 0, 40, 10, 100, 40, -1, 0, 1, 2, 0, 0, 0);
        bearerIs(x, 3, 4, -150, 9, 1, 100, 9, 50, 0, 4, 0, 150, 0, 0);
        x.tick(2);
        // 0: 40 + 36, strength 80; 1: -50 + 30 + 28; 2: -100 + 40; 3: -150 + 9 + 8
        bearerIs(x, 0, 1, 76, 40, 10, 80, 32, -1, 2, 1, 0, 0, 0, 0);
        bearerIs(x, 1, 2, 8, 30, 5, 90, 27, 68, 2, 2, 3, 68, 1, 0);
        bearerIs(x, 3, 4, -133, 9, 1, 98, 8, 73, 2, 4, 0, 209, 2, 0);
        x.drop(1);
        CHECK.is(x.bearer(1, 12), 1, "a banner lies there");
        CHECK.is(x.bearer(1, 0), 0, "it carries none");
        CHECK.is(x.bearer(1, 8), 2, "its own letter stays");
        CHECK.is(x.bearer(1, 9), 0, "none sees it without a banner");
        CHECK.is(x.bearer(0, 12), 0, "no banner lies there");
        x.strengthen(3, -98);
        CHECK.is(x.bearer(3, 5), 0, "the stride without strength");
        x.tick(1);
        CHECK.is(x.bearer(3, 7), 2, "it stood");
        CHECK.is(x.bearer(3, 4), 5, "it rested");
        CHECK.fails(Check.INDEX, "bearer(-1, 0)", () -> x.bearer(-1, 0));
        CHECK.fails(Check.INDEX, "bearer(4, 13)", () -> x.bearer(4, 13));
        CHECK.fails(Check.ARGUMENT, "bearer(0, -1)", () -> x.bearer(0, -1));
        CHECK.fails(Check.ARGUMENT, "bearer(3, 13)", () -> x.bearer(3, 13));
        BannerParade y = Check.loaded("parade 1 0 1 0 1 0;bearer a 199 1");
        y.tick(1);
        CHECK.is(y.bearer(0, 5), 197, "199 times 99 / 100 is cast");
        y.strengthen(0, -99);
        y.strengthen(0, 29);
        y.setStep(0, 100);
        CHECK.is(y.bearer(0, 5), 29, "as floats: 100 times 29 / 100");
    }

    private static void standIs(BannerParade x, int s, int... want) {
        for (int what = 0; what < want.length; what++) {
            CHECK.is(x.stand(s, what), want[what], "stand(" + s + ", " + what + ")");
        }
    }

    private static void stand() {
        CHECK.about("promise 10");
        BannerParade x = Check.loaded(ROW + ";stand left 0 ab;stand right 9999 abcdefgh"
                + ";stand right 9 b");
        x.set(1, 50);
        standIs(x, 0, 0, 0, 2, -1, 2, 3, 0, 0, 2);
        standIs(x, 1, 1, 9999, 8, -1, 0, 0, 9999, 0, 4);
        standIs(x, 2, 1, 9, 1, -1, 1, 1, 9, 0, 3);
        x.drop(0);
        standIs(x, 0, 0, 0, 2, -1, 1, 1, 0, 0, 2);
        x.undo();
        // bearer 0 at 40 and bearer 1 at -20; then 76 and 8; WIDE is 40
        CHECK.is(x.tick(1), 0, "tick");
        standIs(x, 2, 1, 9, 1, -1, 2, 3, 29, 0, 2);
        CHECK.is(x.tick(1), 1, "tick");
        standIs(x, 2, 1, 9, 1, 2, 1, 1, 1, 1, 2);
        standIs(x, 0, 0, 0, 2, -1, 1, 1, 8, 1, 2);
        BannerParade y = Check.loaded("parade 1 0 1 0 1 0;stand left 5 a");
        standIs(y, 0, 0, 5, 1, -1, 0, 0, -1, 0, 0);
        CHECK.fails(Check.INDEX, "stand(-1, 9)", () -> x.stand(-1, 9));
        CHECK.fails(Check.INDEX, "stand(3, 0)", () -> x.stand(3, 0));
        CHECK.fails(Check.ARGUMENT, "stand(2, -1)", () -> x.stand(2, -1));
        CHECK.fails(Check.ARGUMENT, "stand(0, 9)", () -> x.stand(0, 9));
    }

    private static void plan() {
        CHECK.about("promise 11");
        BannerParade x = Check.loaded(ROW + ";plan 2 2;plan 1 0;plan 4000 1");
        x.set(5, 60);
        int[][] first = {{2, 2, 0, 2}, {1, 0, 0, 1}, {4000, 1, 0, 4000}};
        plansAre(x, first);
        x.tick(1);
        plansAre(x, new int[][] {{2, 2, 0, 1}, {1, 0, 1, -1}, {4000, 1, 0, 3999}});
        x.set(5, 0);
        x.tick(1);
        plansAre(x, new int[][] {{2, 2, 2, -1}, {1, 0, 1, -1}, {4000, 1, 0, 3998}});
        x.undo();
        x.undo();
        x.undo();
        plansAre(x, first);
        CHECK.fails(Check.INDEX, "plan(-1, 0)", () -> x.plan(-1, 0));
        CHECK.fails(Check.INDEX, "plan(3, 4)", () -> x.plan(3, 4));
        CHECK.fails(Check.ARGUMENT, "plan(0, -1)", () -> x.plan(0, -1));
        CHECK.fails(Check.ARGUMENT, "plan(2, 4)", () -> x.plan(2, 4));
    }

    private static void plansAre(BannerParade x, int[][] want) {
        for (int k = 0; k < want.length; k++) {
            for (int what = 0; what < 4; what++) {
                CHECK.is(x.plan(k, what), want[k][what], "plan(" + k + ", " + what + ")");
            }
        }
    }

    private static void lying() {
        CHECK.about("promise 12");
        BannerParade x = Check.loaded(ROW);
        CHECK.fails(Check.INDEX, "lying(0, 0)", () -> x.lying(0, 0));
        x.set(4, 100);
        x.strengthen(0, -1);
        x.strengthen(2, -1);
        x.drop(2);
        x.drop(0);
        lyingAre(x, new int[][] {{1, -100, 0}, {1, 0, 0}});
        x.strengthen(3, -100);
        x.strengthen(1, -100);
        x.set(3, 0);
        x.tick(1);
        lyingAre(x, new int[][] {{1, -100, 0}, {1, 0, 0}, {2, -50, 1}, {4, -150, 1}});
        x.set(4, 1);
        x.strengthen(3, 1);
        CHECK.is(x.pick(3), 4, "pick(3)");
        lyingAre(x, new int[][] {{1, -100, 0}, {1, 0, 0}, {2, -50, 1}});
        x.drop(3);
        x.strengthen(1, 1);
        x.pick(1);
        lyingAre(x, new int[][] {{1, -100, 0}, {1, 0, 0}, {4, -150, 1}});
        CHECK.fails(Check.INDEX, "lying(-1, 0)", () -> x.lying(-1, 0));
        CHECK.fails(Check.INDEX, "lying(3, 3)", () -> x.lying(3, 3));
        CHECK.fails(Check.ARGUMENT, "lying(0, -1)", () -> x.lying(0, -1));
        CHECK.fails(Check.ARGUMENT, "lying(2, 3)", () -> x.lying(2, 3));
    }

    private static void lyingAre(BannerParade x, int[][] want) {
        CHECK.is(x.count(5), want.length, "count(5)");
        for (int k = 0; k < want.length; k++) {
            for (int what = 0; what < 3; what++) {
                CHECK.is(x.lying(k, what), want[k][what], "lying(" + k + ", " + what + ")");
            }
        }
    }

    private static void bytes() {
        BannerParade x = Check.loaded(ROW + ";stand left 0 abcdefgh;stand right 500 z"
                + ";stand right 0 ab");
        CHECK.about("promise 13");
        for (int i = 0; i < 8; i++) {
            CHECK.is(x.wordByte(0, i), 'a' + i, "wordByte(0, " + i + ")");
        }
        CHECK.is(x.wordByte(0, 8), -1, "wordByte(0, 8)");
        CHECK.is(x.wordByte(1, 0), (int) 'z', "wordByte(1, 0)");
        CHECK.is(x.wordByte(1, 1), -1, "wordByte(1, 1)");
        CHECK.is(x.wordByte(1, -1), -1, "wordByte(1, -1)");
        CHECK.is(x.wordByte(1, Integer.MIN_VALUE), -1, "wordByte(1, least)");
        CHECK.is(x.wordByte(1, Integer.MAX_VALUE), -1, "wordByte(1, greatest)");
        CHECK.fails(Check.INDEX, "wordByte(3, 0)", () -> x.wordByte(3, 0));
        CHECK.fails(Check.INDEX, "wordByte(-1, 0)", () -> x.wordByte(-1, 0));
        CHECK.about("promise 14");
        x.set(1, 50);
        int[] left = {'a', ' ', 'b', -1};
        int[] right = {'b', ' ', 'a', -1};
        for (int i = 0; i < 4; i++) {
            CHECK.is(x.readByte(0, i), left[i], "readByte(0, " + i + ")");
            CHECK.is(x.readByte(2, i), right[i], "readByte(2, " + i + ")");
        }
        CHECK.is(x.readByte(0, -1), -1, "readByte(0, -1)");
        CHECK.is(x.readByte(0, Integer.MAX_VALUE), -1, "readByte(0, greatest)");
        CHECK.is(x.readByte(1, 0), -1, "readByte of an empty text");
        x.set(1, 49);
        CHECK.is(x.readByte(0, 1), -1, "readByte beyond REACH");
        x.set(1, 50);
        x.set(2, 50);
        CHECK.is(x.readByte(0, 1), (int) 'b', "readByte without a blank at WIDE");
        CHECK.fails(Check.INDEX, "readByte(3, 0)", () -> x.readByte(3, 0));
        CHECK.fails(Check.INDEX, "readByte(-1, 0)", () -> x.readByte(-1, 0));
    }
}

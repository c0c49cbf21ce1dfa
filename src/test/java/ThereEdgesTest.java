/** The boundary cases of promises 7 to 14. */
public final class ThereEdgesTest {
    private static final Check CHECK = new Check();
    private static final int SPACE = 0;
    private static final int REACH = 1;
    private static final int NEAR = 5;
    /** The places are 0, -10, -20 and so on; REST is 0, LIFT is 100, NEAR just suffices. */
    private static final String HEAD = "parade 10 0 1 0 100 10";

    public static void main(String[] args) {
        countsOfNothing();
        countsOfAll();
        countOfCarriedAndLying();
        countOfSwaps();
        countOfMissedPlans();
        countOfDropsAndPicks();
        countOfReadWords();
        countOfPlansToCome();
        countOfTiredBearers();
        countOfOwnLetters();
        countOfCloseBearers();
        countOfStrides();
        countOfSeeingStands();
        bearerBanner();
        bearerPlace();
        bearerStride();
        bearerDistances();
        bearerMoved();
        bearerSeen();
        bearerWeaker();
        bearerOverBanner();
        standNumbers();
        standSight();
        standLeastDifference();
        standPassed();
        planNumbers();
        lyingOrder();
        lyingFull();
        wordBytes();
        readBytes();
        CHECK.end();
    }

    private static BannerParade loaded(String text) {
        return Check.loaded(text);
    }

    private static BannerParade row(int bearers) {
        return loaded(HEAD + ";bearer a 1 0".repeat(bearers));
    }

    private static void count(BannerParade x, int what, int want, String when) {
        CHECK.is(x.count(what), want, "count(" + what + ") " + when);
    }

    // ---- promise 7

    private static void countsOfNothing() {
        CHECK.about("promise 7: no bearers, no stands, no plans");
        BannerParade x = loaded(HEAD);
        for (int what = 0; what <= 16; what++) {
            count(x, what, 0, "at first");
        }
        x.tick(100);
        for (int what = 0; what <= 16; what++) {
            count(x, what, what == 3 ? 100 : 0, "at 100");
        }
    }

    private static void countsOfAll() {
        CHECK.about("promise 7: 12 bearers, 6 stands, 12 plans");
        BannerParade x = loaded("parade 1 9999 1 0 1 1" + ";bearer z 200 0".repeat(12)
                + ";stand left 9 z".repeat(6) + ";plan 1 0".repeat(6) + ";plan 2 10".repeat(6));
        int[] want = {12, 6, 12, 0, 12, 0, 0, 0, 0, 0, 0, 12, 0, 12, 11, 2400, 6};
        for (int what = 0; what <= 16; what++) {
            count(x, what, want[what], "at first");
        }
        x.tick(2);
        count(x, 6, 6 + 6, "of all plans");
        count(x, 11, 0, "of all plans");
        count(x, 3, 2, "behind two ticks");
    }

    private static void countOfCarriedAndLying() {
        CHECK.about("promise 7, 4 and 5: banners that are carried, banners that lie");
        BannerParade x = loaded(HEAD + ";bearer a 1 0".repeat(6) + ";bearer z 1 0".repeat(6));
        for (int b = 0; b < 12; b++) {
            count(x, 4, 12 - b, "behind " + b + " drops");
            count(x, 5, b, "behind " + b + " drops");
            x.drop(b);
        }
        count(x, 4, 0, "all lie");
        count(x, 5, 12, "all lie");
        x.pick(11);
        count(x, 4, 1, "the last one is picked up");
        count(x, 5, 11, "the last one is picked up");
    }

    private static void countOfSwaps() {
        CHECK.about("promise 7, 6: swaps that were done, by plans too, also without banners");
        BannerParade x = loaded(HEAD + ";bearer a 1 0;bearer b 1 0;plan 1 0;plan 2 0");
        x.swap(0);
        count(x, 6, 1, "behind a call");
        x.tick(1);
        count(x, 6, 2, "behind a plan");
        x.drop(0);
        x.drop(1);
        x.swap(0);
        count(x, 6, 3, "behind a call without banners");
        x.set(4, 100);
        x.tick(1);
        count(x, 6, 4, "behind a plan without banners");
        x.set(NEAR, 0);
        CHECK.fails(Check.ARGUMENT, "swap", () -> x.swap(0));
        x.addPlan(3, 0);
        x.tick(1);
        count(x, 6, 4, "behind a call that was refused and a plan that was missed");
        x.bestStand();
        x.undo();
        x.undo();
        x.undo();
        count(x, 6, 4, "undone to time 2");
        x.undo();
        x.undo();
        x.undo();
        count(x, 6, 2, "undone to the first plan");
    }

    private static void countOfMissedPlans() {
        CHECK.about("promise 7, 7: plans that were missed");
        BannerParade x = loaded("parade 10 0 1 0 1 9" + ";bearer a 1 0".repeat(12)
                + ";plan 1 0".repeat(6) + ";plan 2 10".repeat(6));
        count(x, 7, 0, "at first");
        x.tick(1);
        count(x, 7, 6, "at 1");
        x.tick(1);
        count(x, 7, 12, "at 2");
        x.tick(1);
        count(x, 7, 12, "at 3");
        count(x, 6, 0, "none was done");
    }

    private static void countOfDropsAndPicks() {
        CHECK.about("promise 7, 8 and 9: how often one was dropped and picked up");
        BannerParade x = loaded("parade 10 0 1 0 1 0;bearer a 1 0");
        for (int k = 1; k <= 3; k++) {
            x.drop(0);
            count(x, 8, k, "behind drop");
            count(x, 9, k - 1, "behind drop");
            x.pick(0);
            count(x, 9, k, "behind pick");
        }
        CHECK.fails(Check.ARGUMENT, "pick", () -> x.pick(0));
        x.strengthen(0, -100);
        count(x, 8, 3, "without strength, ahead of a tick");
        x.tick(1);
        count(x, 8, 4, "dropped in a tick");
        x.strengthen(0, 1);
        count(x, 9, 3, "with strength, ahead of a tick");
        x.tick(1);
        count(x, 9, 4, "picked up in a tick");
        count(x, 8, 4, "picked up in a tick");
        x.undo();
        count(x, 9, 3, "undone");
    }

    private static void countOfReadWords() {
        CHECK.about("promise 7, 10: stands whose word was read");
        BannerParade x = loaded("parade 10 9999 1 0 100 0;bearer a 1 0" + ";stand left 1 a".repeat(6));
        count(x, 10, 0, "at first, though all read their word");
        x.tick(1);
        count(x, 10, 6, "behind a tick");
        x.drop(0);
        x.tick(1);
        count(x, 10, 6, "though none reads it now");
        x.undo();
        x.undo();
        x.undo();
        count(x, 10, 0, "undone");
    }

    private static void countOfPlansToCome() {
        CHECK.about("promise 7, 11: plans that are still to come");
        BannerParade x = loaded(HEAD + ";bearer a 1 0;bearer b 1 0;plan 1 0;plan 2 0;plan 2 0");
        int[] want = {3, 2, 0, 0};
        for (int time = 0; time < 4; time++) {
            count(x, 11, want[time], "at " + time);
            x.tick(1);
        }
        x.addPlan(5, 0);
        count(x, 11, 1, "behind addPlan");
    }

    private static void countOfTiredBearers() {
        CHECK.about("promise 7, 12: bearers with the strength 0");
        BannerParade x = row(12);
        x.strengthen(0, -99);
        count(x, 12, 0, "with the strength 1");
        x.strengthen(0, -1);
        count(x, 12, 1, "with the strength 0");
        for (int b = 1; b < 12; b++) {
            x.strengthen(b, -100);
        }
        count(x, 12, 12, "all");
    }

    private static void countOfOwnLetters() {
        CHECK.about("promise 7, 13: the letter of their own one, that one or another one");
        BannerParade x = loaded(HEAD + ";bearer a 1 0;bearer a 1 0;bearer b 1 0");
        count(x, 13, 3, "at first");
        x.swap(0);
        count(x, 13, 3, "another one with the same letter");
        x.swap(1);
        count(x, 13, 1, "two with another letter");
        x.drop(0);
        count(x, 13, 0, "without a banner");
        count(x, 4, 2, "banners that are carried");
    }

    private static void countOfCloseBearers() {
        CHECK.about("promise 7, 14: bearers whose distance to the one ahead is SPACE or less");
        BannerParade x = row(12);
        count(x, 14, 11, "at SPACE; the first one has none ahead");
        x.set(SPACE, 9);
        count(x, 14, 0, "at SPACE and 1");
        x.set(SPACE, 11);
        count(x, 14, 11, "at less than SPACE");
        CHECK.is(row(1).count(14), 0, "one bearer");
        CHECK.is(row(2).count(14), 1, "two bearers");
    }

    private static void countOfStrides() {
        CHECK.about("promise 7, 15: the sum of the strides of all bearers now");
        BannerParade x = loaded("parade 10 0 1 0 1 0" + ";bearer a 150 0".repeat(12));
        count(x, 15, 1800, "with the strength 100, though all but the first are as near as SPACE");
        x.strengthen(0, -1);
        count(x, 15, 1798, "99 of 150 is 148.5");
        x.setStep(1, 1);
        x.strengthen(1, -1);
        count(x, 15, 1648, "99 of 1 is less than 1");
        CHECK.is(row(0).count(15), 0, "no bearers");
    }

    private static void countOfSeeingStands() {
        CHECK.about("promise 7, 16: stands that see a bearer now");
        BannerParade x = loaded("parade 10 5 1 0 1 0;bearer a 1 0;bearer b 1 0;stand left 5 a"
                + ";stand left 6 a;stand right 0 a");
        count(x, 16, 2, "5 and 0 of 5, 6 and 0");
        x.drop(0);
        count(x, 16, 0, "a bearer without a banner is not seen");
        x.set(REACH, 10);
        count(x, 16, 1, "the other one from 0");
        x.set(REACH, 15);
        count(x, 16, 2, "the other one from 0 and 5");
        x.drop(1);
        count(x, 16, 0, "none");
    }

    // ---- promise 9

    private static void bearerBanner() {
        CHECK.about("promise 9, 0 and 8: 1 to 26 for a to z, 0 if it carries none");
        BannerParade x = loaded(HEAD + ";bearer a 1 0;bearer z 1 0");
        CHECK.is(x.bearer(0, 0) * 100 + x.bearer(1, 0), 126, "a and z");
        x.swap(0);
        CHECK.is(x.bearer(0, 0) * 100 + x.bearer(1, 0), 2601, "z and a");
        CHECK.is(x.bearer(0, 8) * 100 + x.bearer(1, 8), 126, "their own ones");
        x.drop(0);
        CHECK.is(x.bearer(0, 0), 0, "none");
        CHECK.is(x.bearer(0, 8), 1, "its own one");
    }

    private static void bearerPlace() {
        CHECK.about("promise 9, 1: its place (which may be less than 0)");
        BannerParade x = loaded("parade 999 0 1 0 1 0" + ";bearer a 200 0".repeat(12));
        CHECK.is(x.bearer(11, 1), -10989, "the least one");
        x.tick(55);
        CHECK.is(x.bearer(11, 1), 11, "behind 55 ticks");
        for (int k = 0; k < 49; k++) {
            x.tick(100);
        }
        x.tick(45);
        CHECK.is(x.bearer(0, 1), 1000000, "the greatest one");
        CHECK.is(x.bearer(11, 10), 10989, "the distance to the first one");
    }

    private static void bearerStride() {
        CHECK.about("promise 9, 5: its stride now");
        BannerParade x = loaded("parade 10 0 1 0 1 0;bearer a 200 20;bearer b 200 0");
        CHECK.is(x.bearer(1, 5), 200, "though it can't go so far");
        x.tick(1);
        CHECK.is(x.bearer(0, 5), 160, "behind a tick");
        x.setStep(0, 1);
        CHECK.is(x.bearer(0, 5), 0, "less than 1");
        x.strengthen(0, 100);
        CHECK.is(x.bearer(0, 5), 1, "1");
        x.strengthen(1, -100);
        CHECK.is(x.bearer(1, 5), 0, "without strength");
    }

    private static void bearerDistances() {
        CHECK.about("promise 9, 6: NONE for the first one; 10: 0 for the first one");
        BannerParade x = row(12);
        CHECK.is(x.bearer(0, 6), -1, "6 of the first one");
        CHECK.is(x.bearer(0, 10), 0, "10 of the first one");
        for (int b = 1; b < 12; b++) {
            CHECK.is(x.bearer(b, 6), 10, "6 of " + b);
            CHECK.is(x.bearer(b, 10), 10 * b, "10 of " + b);
        }
        x.setStep(0, 200);
        x.tick(1);
        CHECK.is(x.bearer(0, 6), -1, "6 of the first one at 200");
        CHECK.is(x.bearer(0, 10), 0, "10 of the first one at 200");
        CHECK.is(x.bearer(1, 6), 209, "6 of 1");
        CHECK.is(x.bearer(11, 10), 309, "10 of 11");
    }

    private static void bearerMoved() {
        CHECK.about("promise 9, 7: in how many ticks it moved");
        BannerParade x = loaded("parade 10 0 1 0 1 0;bearer a 2 20;bearer b 1 0");
        x.strengthen(1, -1);
        // 100, 80, 60, 40: strides 2, 1, 1, 0
        int[] want = {0, 1, 2, 3, 3, 3};
        for (int time = 0; time < want.length; time++) {
            CHECK.is(x.bearer(0, 7), want[time], "at " + time);
            CHECK.is(x.bearer(1, 7), 0, "the other one at " + time);
            x.tick(1);
        }
        BannerParade y = loaded(HEAD + ";bearer a 1 0;bearer b 3 0");
        y.tick(100);
        CHECK.is(y.bearer(0, 7) * 1000 + y.bearer(1, 7), 100100, "each tick");
    }

    private static void bearerSeen() {
        CHECK.about("promise 9, 9: how many stands see it now");
        BannerParade x = loaded("parade 10 5 1 0 1 0;bearer a 1 0;bearer b 1 0"
                + ";stand left 5 a;stand right 5 a;stand left 0 a;stand left 6 a");
        CHECK.is(x.bearer(0, 9), 3, "from 5, 5 and 0, not from 6");
        CHECK.is(x.bearer(1, 9), 0, "from none");
        x.set(REACH, 9999);
        CHECK.is(x.bearer(1, 9), 4, "from all");
        x.drop(1);
        CHECK.is(x.bearer(1, 9), 0, "without a banner");
        BannerParade y = loaded("parade 1 0 1 0 1 0;bearer a 1 0" + ";stand right 0 a".repeat(6));
        CHECK.is(y.bearer(0, 9), 6, "from six");
        CHECK.is(row(1).bearer(0, 9), 0, "without stands");
    }

    private static void bearerWeaker() {
        CHECK.about("promise 9, 11: how many bearers have less strength");
        BannerParade x = row(12);
        CHECK.is(x.bearer(0, 11), 0, "all alike");
        x.strengthen(3, -1);
        CHECK.is(x.bearer(3, 11), 0, "it has the least");
        CHECK.is(x.bearer(0, 11), 1, "99 is less than 100");
        x.strengthen(11, -1);
        CHECK.is(x.bearer(3, 11), 0, "two have the least");
        x.strengthen(0, -2);
        CHECK.is(x.bearer(3, 11), 1, "the first one has less");
        x.strengthen(0, 2);
        for (int b = 1; b < 12; b++) {
            x.strengthen(b, -100);
        }
        CHECK.is(x.bearer(0, 11), 11, "all others");
        CHECK.is(row(1).bearer(0, 11), 0, "one bearer");
    }

    private static void bearerOverBanner() {
        CHECK.about("promise 9, 12: 1 if a banner lies at its place, otherwise 0");
        BannerParade x = loaded("parade 10 0 1 0 100 99;bearer a 1 0;bearer b 1 0;bearer c 11 0");
        CHECK.is(x.bearer(0, 12), 0, "none lies");
        x.drop(1);
        CHECK.is(x.bearer(1, 12), 1, "one lies at its place");
        x.swap(0);
        x.drop(1);
        x.strengthen(0, -50);
        x.strengthen(1, -50);
        CHECK.is(x.bearer(0, 12), 0, "two lie at the place of another one");
        CHECK.is(x.bearer(1, 12), 1, "two lie at its place: still 1");
        CHECK.is(x.bearer(2, 12), 0, "two lie ahead of it");
        x.set(SPACE, 1);
        int[] places = {-20 + 9, -20 + 10, -20 + 11};
        for (int k = 0; k < 3; k++) {
            x.setStep(2, 9 + k);
            x.setStep(1, 6);
            x.tick(1);
            CHECK.is(x.bearer(2, 1), places[k], "the place of another one that comes by");
            CHECK.is(x.bearer(2, 12), k == 1 ? 1 : 0, "at " + places[k]);
            x.undo();
        }
    }

    // ---- promise 10

    private static void standNumbers() {
        CHECK.about("promise 10, 0 to 3: side, place, length, the time (NONE if it was not read)");
        BannerParade x = loaded("parade 10 0 1 0 1 0;bearer a 10 0;stand left 0 abcdefgh"
                + ";stand right 9999 z;stand left 20 a");
        int[][] want = {{0, 0, 8, -1}, {1, 9999, 1, -1}, {0, 20, 1, -1}};
        for (int time = 0; time <= 3; time++) {
            want[2][3] = time < 2 ? -1 : 2;
            for (int s = 0; s < 3; s++) {
                for (int what = 0; what < 4; what++) {
                    CHECK.is(x.stand(s, what), want[s][what], "stand(" + s + ", " + what + ")");
                }
            }
            x.tick(1);
        }
    }

    private static void standSight() {
        CHECK.about("promise 10, 4 and 5: bearers that it sees, the length of the text");
        BannerParade x = loaded("parade 2 99 1 0 1 0" + ";bearer a 1 0".repeat(12)
                + ";stand left 0 a;stand right 121 a;stand left 9999 a");
        CHECK.is(x.stand(0, 4), 12, "all");
        CHECK.is(x.stand(0, 5), 23, "all, with 11 blanks");
        CHECK.is(x.stand(1, 4), 0, "REACH is just too little");
        CHECK.is(x.stand(2, 5), 0, "no text");
        x.set(2, 2);
        CHECK.is(x.stand(0, 5), 12, "all, without blanks");
        x.set(REACH, 121);
        CHECK.is(x.stand(1, 4), 1, "one");
        CHECK.is(x.stand(1, 5), 1, "one letter");
        x.drop(0);
        CHECK.is(x.stand(1, 4), 0, "without a banner");
        CHECK.is(x.stand(0, 4), 11, "all but one");
        CHECK.is(loaded(HEAD + ";stand left 0 a").stand(0, 4), 0, "without bearers");
        CHECK.is(loaded(HEAD + ";stand left 0 a").stand(0, 5), 0, "without bearers");
    }

    private static void standLeastDifference() {
        CHECK.about("promise 10, 6: the least difference, without sign; NONE without bearers");
        BannerParade x = loaded(HEAD + ";bearer a 10 0;bearer b 5 0;stand left 7 a;stand left 0 a"
                + ";stand left 9999 a");
        int[] want = {7, 0, 9999};
        for (int s = 0; s < 3; s++) {
            CHECK.is(x.stand(s, 6), want[s], "of stand " + s);
        }
        x.drop(0);
        x.drop(1);
        CHECK.is(x.stand(0, 6), 7, "without a banner");
        x.strengthen(0, -1);
        x.strengthen(1, -1);
        x.setStep(0, 12);
        x.setStep(1, 11);
        x.tick(1);
        CHECK.is(x.stand(0, 6), 4, "11 and 0 from 7");
        x.tick(1);
        CHECK.is(x.stand(0, 6), 3, "22 and 10 from 7");
        CHECK.is(x.stand(1, 6), 10, "22 and 10 from 0");
        CHECK.is(loaded(HEAD + ";stand left 0 a").stand(0, 6), -1, "without bearers");
    }

    private static void standPassed() {
        CHECK.about("promise 10, 7 and 8: greater than place plus REACH, less than place less REACH");
        // places 40, 30, 20, 10, 0
        BannerParade x = loaded("parade 10 10 1 0 1 0" + ";bearer a 40 0".repeat(5)
                + ";stand left 20 a;stand left 0 a;stand left 9999 a");
        x.tick(1);
        CHECK.is(x.stand(0, 7), 1, "40 is, 30 is not");
        CHECK.is(x.stand(0, 8), 1, "0 is, 10 is not");
        CHECK.is(x.stand(1, 7), 3, "of stand 1");
        CHECK.is(x.stand(1, 8), 0, "of stand 1");
        CHECK.is(x.stand(2, 7), 0, "of stand 2");
        CHECK.is(x.stand(2, 8), 5, "of stand 2");
        x.drop(0);
        x.drop(4);
        CHECK.is(x.stand(0, 7), 1, "without a banner");
        CHECK.is(x.stand(0, 8), 1, "without a banner");
        x.set(REACH, 9);
        CHECK.is(x.stand(0, 7), 2, "REACH 9");
        CHECK.is(x.stand(0, 8), 2, "REACH 9");
        x.set(REACH, 20);
        CHECK.is(x.stand(0, 7) + x.stand(0, 8), 0, "REACH 20");
        BannerParade y = loaded(HEAD + ";stand left 0 a");
        CHECK.is(y.stand(0, 7) + y.stand(0, 8), 0, "without bearers");
        BannerParade z = loaded(HEAD + ";bearer a 200 0".repeat(12) + ";stand left 0 a");
        CHECK.is(z.stand(0, 7) * 100 + z.stand(0, 8), 11, "0 down to -110");
        z.tick(1);
        CHECK.is(z.stand(0, 7) * 100 + z.stand(0, 8), 1200, "200 down to 90");
    }

    // ---- promises 11 to 14

    private static void planNumbers() {
        CHECK.about("promise 11: to come, done or missed; NONE if it is not to come any more");
        BannerParade x = loaded(HEAD + ";bearer a 1 0;bearer b 1 0;bearer c 100 0;plan 2 0;plan 2 1"
                + ";plan 5000 1");
        x.strengthen(2, -100);
        int[][] outcomes = {{0, 0, 0}, {0, 0, 0}, {1, 2, 0}, {1, 2, 0}};
        int[][] left = {{2, 2, 5000}, {1, 1, 4999}, {-1, -1, 4998}, {-1, -1, 4997}};
        for (int time = 0; time < 4; time++) {
            for (int k = 0; k < 3; k++) {
                CHECK.is(x.plan(k, 0), k == 2 ? 5000 : 2, "time of " + k);
                CHECK.is(x.plan(k, 1), k == 0 ? 0 : 1, "bearer of " + k);
                CHECK.is(x.plan(k, 2), outcomes[time][k], "outcome of " + k + " at " + time);
                CHECK.is(x.plan(k, 3), left[time][k], "ticks to " + k + " at " + time);
            }
            x.tick(1);
        }
        x.undo();
        x.undo();
        x.undo();
        CHECK.is(x.plan(0, 2) + x.plan(1, 2), 0, "to come again");
        CHECK.is(x.plan(0, 3), 1, "in 1 again");
    }

    private static void lyingOrder() {
        CHECK.about("promise 12: the earliest one first, in a tick by the numbers of the bearers");
        BannerParade x = loaded(HEAD + ";bearer a 1 0;bearer b 1 0;bearer c 1 0;bearer d 1 0");
        x.drop(3);
        x.strengthen(2, -100);
        x.strengthen(0, -100);
        x.strengthen(1, -1);
        x.strengthen(3, -1);
        x.tick(1);
        x.drop(1);
        int[][] want = {{4, -30, 0}, {1, 0, 1}, {3, -20, 1}, {2, -10, 1}};
        for (int k = 0; k < 4; k++) {
            for (int what = 0; what < 3; what++) {
                CHECK.is(x.lying(k, what), want[k][what], "lying(" + k + ", " + what + ")");
            }
        }
        CHECK.fails(Check.INDEX, "lying(4, 0)", () -> x.lying(4, 0));
        x.set(4, 1);
        x.pick(3);
        for (int k = 0; k < 3; k++) {
            for (int what = 0; what < 3; what++) {
                CHECK.is(x.lying(k, what), want[k + 1][what], "the first one was picked up");
            }
        }
        CHECK.fails(Check.INDEX, "lying(3, 0)", () -> x.lying(3, 0));
        x.drop(3);
        CHECK.is(x.lying(3, 0) * 100 + x.lying(3, 2), 401, "it is the last one now, of time 1");
        x.pick(1);
        CHECK.is(x.lying(2, 0), 4, "one in the middle was picked up");
        x.undo();
        x.undo();
        x.undo();
        for (int k = 0; k < 4; k++) {
            for (int what = 0; what < 3; what++) {
                CHECK.is(x.lying(k, what), want[k][what], "undone");
            }
        }
    }

    private static void lyingFull() {
        CHECK.about("promise 12: not so many banners lie");
        BannerParade x = loaded(HEAD + ";bearer z 1 0".repeat(12));
        for (int size = 0; size <= 12; size++) {
            int behind = size;
            CHECK.fails(Check.INDEX, "lying at " + size, () -> x.lying(behind, 0));
            if (size > 0) {
                CHECK.is(x.lying(size - 1, 1), -10 * (size - 1), "the last one of " + size);
                CHECK.is(x.lying(0, 0), 26, "the first one of " + size);
            }
            if (size < 12) {
                CHECK.is(x.drop(size), size + 1, "drop");
            }
        }
        CHECK.is(x.lying(11, 0), 26, "the last letter");
    }

    private static void wordBytes() {
        CHECK.about("promise 13: NONE if there is no such byte");
        BannerParade x = loaded(HEAD + ";stand left 0 azbycxdw;stand left 0 q");
        for (int i : new int[] {Integer.MIN_VALUE, -8, -1, 8, 9, 16, Integer.MAX_VALUE}) {
            CHECK.is(x.wordByte(0, i), -1, "wordByte(0, " + i + ")");
            CHECK.is(x.wordByte(1, i), -1, "wordByte(1, " + i + ")");
        }
        for (int i = 0; i < 8; i++) {
            CHECK.is(x.wordByte(0, i), (int) "azbycxdw".charAt(i), "wordByte(0, " + i + ")");
            CHECK.is(x.wordByte(1, i), i == 0 ? 'q' : -1, "wordByte(1, " + i + ")");
        }
    }

    private static void readBytes() {
        CHECK.about("promise 14: NONE if there is no such byte");
        String[] letters = {"a", "b", "c", "d", "e", "f", "g", "h", "i", "j", "y", "z"};
        StringBuilder text = new StringBuilder("parade 2 50 1 0 1 0;stand left 0 a;stand right 9999 a"
                + ";stand right 50 a");
        for (String letter : letters) {
            text.append(";bearer ").append(letter).append(" 1 0");
        }
        BannerParade x = loaded(text.toString());
        String read = String.join(" ", letters);
        for (int i : new int[] {Integer.MIN_VALUE, -1, 23, 24, Integer.MAX_VALUE}) {
            CHECK.is(x.readByte(0, i), -1, "readByte(0, " + i + ")");
        }
        for (int i = 0; i < 23; i++) {
            CHECK.is(x.readByte(0, i), (int) read.charAt(i), "readByte(0, " + i + ")");
            CHECK.is(x.readByte(1, i), -1, "readByte(1, " + i + ") of an empty text");
            CHECK.is(x.readByte(2, i), i == 0 ? 'a' : -1, "readByte(2, " + i + ")");
        }
    }
}

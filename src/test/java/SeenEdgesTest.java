/** The boundary cases of promises 15 to 36. */
public final class SeenEdgesTest {
    private static final Check CHECK = new Check();
    private static final int REACH = 1;
    private static final int WIDE = 2;
    private static final int NEAR = 5;
    /** The places are 0, -10, -20 and so on; REACH is 200, WIDE is 10, REST is 0, LIFT is 100. */
    private static final String HEAD = "parade 10 200 10 0 100 10";
    private static final String ABC = HEAD + ";bearer a 1 0;bearer b 1 0;bearer c 1 0";
    private static final int ALL = (1 << 12) - 1;

    public static void main(String[] args) {
        seen();
        matches();
        isRead();
        share();
        shareOfLongTexts();
        shareBits();
        missing();
        seenAt();
        blanks();
        prefix();
        holder();
        copies();
        tired();
        swappers();
        nextPlan();
        lyingFrom();
        bestStand();
        readStands();
        weakest();
        widest();
        stretch();
        meanStrength();
        CHECK.end();
    }

    private static BannerParade loaded(String text) {
        return Check.loaded(text);
    }

    private static BannerParade row(int bearers) {
        return loaded(HEAD + ";bearer a 1 0".repeat(bearers));
    }

    // ---- promises 15 to 23

    private static void seen() {
        CHECK.about("promise 15: bit k for bearer k");
        BannerParade x = loaded(HEAD + ";bearer a 1 0".repeat(12) + ";stand left 90 a;stand left 91 a"
                + ";stand left 200 a;stand left 201 a");
        CHECK.is(x.seen(0), ALL, "0 down to -110 from 90");
        CHECK.is(x.seen(1), ALL >> 1, "not -110 from 91");
        CHECK.is(x.seen(2), 1, "0 alone from 200");
        CHECK.is(x.seen(3), 0, "none from 201");
        x.drop(0);
        x.drop(11);
        CHECK.is(x.seen(0), ALL - 1 - (1 << 11), "without two banners");
        CHECK.is(x.seen(2), 0, "a bearer without a banner is not seen");
        CHECK.is(loaded(HEAD + ";stand left 0 a").seen(0), 0, "without bearers");
    }

    private static void matches() {
        CHECK.about("promise 16: at how many places, from the first byte on");
        String[] words = {"abc", "abcd", "ab", "a", "xbc", "abx"};
        int[] want = {3, 3, 2, 1, 2, 2};
        StringBuilder text = new StringBuilder(ABC);
        for (String word : words) {
            text.append(";stand left 0 ").append(word);
        }
        BannerParade x = loaded(text.toString());
        for (int s = 0; s < 6; s++) {
            CHECK.is(x.matches(s), want[s], "abc and " + words[s]);
        }
        BannerParade y = loaded(ABC + ";stand left 0 cab;stand left 0 bca;stand left 0 zabc"
                + ";stand left 201 abc;stand right 0 cba;stand left 0 abcabcab");
        int[] others = {0, 0, 0, 0, 3, 3};
        for (int s = 0; s < 6; s++) {
            CHECK.is(y.matches(s), others[s], "stand " + s);
        }
        y.set(WIDE, 9);
        CHECK.is(y.matches(5), 1, "a b c and abcabcab");
        BannerParade z = loaded(ABC + ";stand left 0 azbzc;stand right 0 czbza;stand left 0 zzzzc");
        z.set(WIDE, 9);
        CHECK.is(z.matches(0) * 100 + z.matches(1) * 10 + z.matches(2), 331, "a b c and azbzc");
    }

    private static void isRead() {
        CHECK.about("promise 17: whether the text is its word");
        BannerParade x = loaded(ABC + ";stand left 0 abc;stand left 0 ab;stand left 0 abcd"
                + ";stand left 0 abd;stand right 0 abc;stand left 201 a");
        boolean[] want = {true, false, false, false, false, false};
        for (int s = 0; s < 6; s++) {
            CHECK.is(x.isRead(s), want[s], "stand " + s);
        }
        x.drop(2);
        CHECK.is(x.isRead(1), true, "ab");
        CHECK.is(x.isRead(0), false, "ab is not abc");
        x.drop(1);
        x.drop(0);
        CHECK.is(x.isRead(5), false, "no text is no word");
        BannerParade y = loaded(HEAD + ";bearer a 1 0".repeat(8) + ";stand left 0 aaaaaaaa"
                + ";stand left 0 aaaaaaa");
        CHECK.is(y.isRead(0), true, "8 letters");
        CHECK.is(y.isRead(1), false, "8 letters and 7");
        y.set(WIDE, 9);
        CHECK.is(y.isRead(0), false, "with blanks");
        BannerParade z = loaded(ABC + ";stand left 0 axbxc;stand left 0 abcxx;stand left 0 abc");
        z.set(WIDE, 9);
        for (int s = 0; s < 3; s++) {
            CHECK.is(z.isRead(s), false, "a blank is no letter of the word");
        }
        z.tick(1);
        CHECK.is(z.readStands(), 0, "a blank is no letter of the word");
        CHECK.is(loaded(HEAD + ";stand left 0 a").isRead(0), false, "without bearers");
    }

    private static void share() {
        CHECK.about("promise 18: divided by the length of the text or of the word, the greater one");
        BannerParade x = loaded(ABC + ";stand left 0 abc;stand left 0 abcxxxx;stand left 0 b"
                + ";stand left 201 abc;stand left 0 ab;stand left 0 cab");
        float[] want = {1f, 3f / 7f, 0f, 0f, 2f / 3f, 0f};
        for (int s = 0; s < 6; s++) {
            CHECK.is(x.share(s), want[s], "share(" + s + ")");
        }
        BannerParade y = loaded(HEAD + ";stand left 0 a");
        CHECK.is(y.share(0), 0f, "without bearers");
        CHECK.is(y.shareBits(0), 0, "its bits");
    }

    private static void shareOfLongTexts() {
        CHECK.about("promise 18: blanks count for the length of the text");
        BannerParade x = loaded(HEAD + ";bearer a 1 0".repeat(12) + ";stand left 0 aaaaaaaa"
                + ";stand left 0 a;stand left 0 z");
        CHECK.is(x.share(0), 8f / 12f, "12 letters");
        CHECK.is(x.share(1), 1f / 12f, "12 letters");
        x.set(WIDE, 9);
        CHECK.is(x.share(0), 4f / 23f, "12 letters and 11 blanks");
        CHECK.is(x.share(1), 1f / 23f, "12 letters and 11 blanks");
        CHECK.is(x.share(2), 0f, "12 letters and 11 blanks");
        for (int b = 11; b >= 1; b--) {
            x.drop(b);
            CHECK.is(x.share(1), 1f / (2 * b - 1), b + " letters");
        }
        CHECK.is(x.share(0), 1f / 8f, "1 letter");
    }

    private static void shareBits() {
        CHECK.about("promise 19: as Float.floatToIntBits gives them");
        for (int length = 1; length <= 12; length++) {
            BannerParade x = loaded(HEAD + ";bearer a 1 0".repeat(length) + ";stand left 0 a"
                    + ";stand left 0 aa;stand left 0 aaa;stand left 0 aaaaa;stand left 0 aaaaaaaa"
                    + ";stand left 0 zzzzzzz");
            for (int s = 0; s < 6; s++) {
                CHECK.is(x.shareBits(s), Float.floatToIntBits(x.share(s)), "letters " + length);
            }
            x.set(WIDE, 9);
            for (int s = 0; s < 6; s++) {
                CHECK.is(x.shareBits(s), Float.floatToIntBits(x.share(s)), "blanks, " + length);
            }
        }
    }

    private static void missing() {
        CHECK.about("promise 20: each letter as often as it stands there, each banner for one");
        BannerParade x = loaded(HEAD + ";bearer a 1 0;bearer a 1 0;bearer z 1 0;stand left 9999 aaaz"
                + ";stand left 0 aa;stand left 0 zzzzzzzz;stand left 0 a;stand left 0 bcdefghi"
                + ";stand left 0 y");
        int[] want = {1, 0, 7, 0, 8, 1};
        for (int s = 0; s < 6; s++) {
            CHECK.is(x.missing(s), want[s], "missing(" + s + ")");
        }
        x.drop(0);
        CHECK.is(x.missing(3), 0, "one a is left");
        CHECK.is(x.missing(1), 1, "one a lies");
        x.drop(1);
        CHECK.is(x.missing(3), 1, "both lie");
        CHECK.is(x.missing(0), 3, "z is carried");
        CHECK.is(loaded(HEAD + ";stand left 0 abcdefgh").missing(0), 8, "without bearers");
    }

    private static void seenAt() {
        CHECK.about("promise 21: NONE if there is no such letter");
        BannerParade x = loaded(HEAD + ";bearer a 1 0".repeat(12) + ";stand left 0 a;stand right 0 a"
                + ";stand left 201 a");
        x.set(WIDE, 9);
        for (int k = 0; k < 12; k++) {
            CHECK.is(x.seenAt(0, k), k, "from the left side");
            CHECK.is(x.seenAt(1, k), 11 - k, "from the right side");
            CHECK.is(x.seenAt(2, k), -1, "no letter");
        }
        for (int k : new int[] {Integer.MIN_VALUE, -12, -1, 12, 13, 22, 23, Integer.MAX_VALUE}) {
            CHECK.is(x.seenAt(0, k), -1, "seenAt(0, " + k + ")");
            CHECK.is(x.seenAt(1, k), -1, "seenAt(1, " + k + ")");
            CHECK.is(x.seenAt(2, k), -1, "seenAt(2, " + k + ")");
        }
        x.drop(0);
        x.drop(5);
        CHECK.is(x.seenAt(0, 0), 1, "the first one without 0");
        CHECK.is(x.seenAt(0, 4), 6, "without 5");
        CHECK.is(x.seenAt(0, 9), 11, "the last one");
        CHECK.is(x.seenAt(0, 10), -1, "10 letters");
        CHECK.is(x.seenAt(1, 9), 1, "the last one from the right side");
    }

    private static void blanks() {
        CHECK.about("promise 22: how many blanks the text has");
        BannerParade x = loaded(HEAD + ";bearer a 1 0".repeat(12) + ";stand left 0 a;stand right 0 a"
                + ";stand left 201 a;stand left 200 a;stand left 190 a");
        for (int s = 0; s < 5; s++) {
            CHECK.is(x.blanks(s), 0, "at WIDE, of stand " + s);
        }
        x.set(WIDE, 9);
        int[] want = {11, 11, 0, 0, 1};
        for (int s = 0; s < 5; s++) {
            CHECK.is(x.blanks(s), want[s], "more than WIDE, of stand " + s);
        }
        x.drop(1);
        CHECK.is(x.blanks(4), 0, "one letter");
        CHECK.is(x.blanks(0), 10, "11 letters");
    }

    private static void prefix() {
        CHECK.about("promise 23: from the first one on and one behind the other");
        BannerParade x = loaded(ABC + ";stand left 0 abc;stand left 0 abcabc;stand left 0 ab"
                + ";stand left 0 xbc;stand left 0 axc;stand left 201 abc");
        int[] want = {3, 3, 2, 0, 1, 0};
        for (int s = 0; s < 6; s++) {
            CHECK.is(x.prefix(s), want[s], "prefix(" + s + ")");
        }
        x.set(WIDE, 9);
        CHECK.is(x.prefix(0), 1, "the second byte is a blank");
        BannerParade y = loaded(HEAD + ";bearer a 1 0".repeat(12) + ";stand left 0 aaaaaaaa");
        CHECK.is(y.prefix(0), 8, "all of the longest word");
        CHECK.is(loaded(HEAD + ";stand left 0 a").prefix(0), 0, "without bearers");
    }

    // ---- promises 24 to 31

    private static void holder() {
        CHECK.about("promise 24: the first bearer of the row; NONE if there is none");
        BannerParade x = loaded(HEAD + ";bearer z 1 0;bearer a 1 0;bearer z 1 0;bearer a 1 0");
        CHECK.is(x.holder(1), 1, "a");
        CHECK.is(x.holder(26), 0, "z");
        for (int letter = 2; letter < 26; letter++) {
            CHECK.is(x.holder(letter), -1, "no such letter " + letter);
        }
        x.drop(0);
        CHECK.is(x.holder(26), 2, "the first z lies");
        x.drop(2);
        CHECK.is(x.holder(26), -1, "both lie");
        x.drop(1);
        CHECK.is(x.holder(1), 3, "the last bearer");
        CHECK.is(row(0).holder(1), -1, "without bearers");
        BannerParade y = loaded(HEAD + ";bearer a 1 0".repeat(11) + ";bearer z 1 0");
        CHECK.is(y.holder(26), 11, "the last one of twelve");
        CHECK.is(y.holder(2), -1, "none of twelve");
        Check.load(y, ABC);
        CHECK.is(y.holder(26), -1, "none of three");
        x.swap(2);
        CHECK.is(x.holder(1), 2, "who carries it now, not whose own it is");
    }

    private static void copies() {
        CHECK.about("promise 25: how many banners with a letter there are, carried or lying");
        BannerParade x = loaded(HEAD + ";bearer a 1 0".repeat(11) + ";bearer z 1 0");
        CHECK.is(x.copies(1), 11, "a");
        CHECK.is(x.copies(26), 1, "z");
        CHECK.is(x.copies(2) + x.copies(25), 0, "others");
        for (int b = 0; b < 12; b++) {
            x.drop(b);
            CHECK.is(x.copies(1), 11, "a, some lie");
            CHECK.is(x.copies(26), 1, "z, some lie");
        }
        x.pick(11);
        x.pick(0);
        CHECK.is(x.copies(1) * 100 + x.copies(26), 1101, "picked up");
        CHECK.is(row(0).copies(1), 0, "without bearers");
    }

    private static void tired() {
        CHECK.about("promise 26: not greater than a number, 0 to 100");
        BannerParade x = row(12);
        CHECK.is(x.tired(100), ALL, "tired(100)");
        CHECK.is(x.tired(99), 0, "tired(99)");
        x.strengthen(0, -100);
        x.strengthen(11, -99);
        x.strengthen(5, -1);
        CHECK.is(x.tired(0), 1, "tired(0)");
        CHECK.is(x.tired(1), 1 + (1 << 11), "tired(1)");
        CHECK.is(x.tired(98), 1 + (1 << 11), "tired(98)");
        CHECK.is(x.tired(99), 1 + (1 << 11) + (1 << 5), "tired(99)");
        CHECK.is(row(0).tired(100), 0, "without bearers");
    }

    private static void swappers() {
        CHECK.about("promise 27: each with a bearer behind it, that may swap with that one now");
        BannerParade x = row(12);
        CHECK.is(x.swappers(), ALL >> 1, "all but the last one");
        x.set(NEAR, 9);
        CHECK.is(x.swappers(), 0, "beyond NEAR");
        x.undo();
        x.strengthen(11, -100);
        CHECK.is(x.swappers(), ALL >> 2, "the last one has no strength");
        x.strengthen(0, -100);
        CHECK.is(x.swappers(), (ALL >> 2) - 1, "the first one has no strength");
        x.strengthen(0, 1);
        CHECK.is(x.swappers(), ALL >> 2, "the first one has the strength 1");
        CHECK.is(row(1).swappers(), 0, "one bearer");
        CHECK.is(row(2).swappers(), 1, "two bearers");
        CHECK.is(row(0).swappers(), 0, "without bearers");
    }

    private static void nextPlan() {
        CHECK.about("promise 28: the least time, of several the smallest one; NONE if none");
        String row = HEAD + ";bearer a 1 0;bearer b 1 0";
        BannerParade x = loaded(row + ";plan 3 0;plan 2 0;plan 2 0;plan 5000 0;plan 1 0");
        int[] want = {4, 1, 0, 3, 3};
        for (int time = 0; time < 5; time++) {
            CHECK.is(x.nextPlan(), want[time], "at " + time);
            x.tick(1);
        }
        x.addPlan(5000, 0);
        CHECK.is(x.nextPlan(), 3, "of two for 5000");
        x.addPlan(4999, 0);
        CHECK.is(x.nextPlan(), 6, "one for 4999");
        CHECK.is(loaded(row).nextPlan(), -1, "without plans");
        BannerParade y = loaded(row + ";plan 1 0");
        y.set(NEAR, 0);
        y.tick(1);
        CHECK.is(y.nextPlan(), -1, "behind one that was missed");
        BannerParade z = loaded(row + ";plan 9 0".repeat(11) + ";plan 8 0");
        CHECK.is(z.nextPlan(), 11, "the last one of twelve");
    }

    private static void lyingFrom() {
        CHECK.about("promise 29: both included; 0 if from is greater than to");
        BannerParade x = row(12);
        int least = Integer.MIN_VALUE;
        int most = Integer.MAX_VALUE;
        CHECK.is(x.lyingFrom(least, most), 0, "none lies");
        for (int b = 0; b < 12; b++) {
            x.drop(b);
        }
        CHECK.is(x.lyingFrom(least, most), 12, "all");
        CHECK.is(x.lyingFrom(-110, 0), 12, "just all");
        CHECK.is(x.lyingFrom(-109, 0), 11, "from just behind the least one");
        CHECK.is(x.lyingFrom(-110, -1), 11, "to just ahead of the greatest one");
        CHECK.is(x.lyingFrom(-50, -50), 1, "one place");
        CHECK.is(x.lyingFrom(-49, -41), 0, "between two");
        CHECK.is(x.lyingFrom(-49, -50), 0, "from is greater by 1");
        CHECK.is(x.lyingFrom(0, -110), 0, "from is greater");
        CHECK.is(x.lyingFrom(most, least), 0, "from the greatest to the least");
        CHECK.is(x.lyingFrom(1, most) + x.lyingFrom(least, -111), 0, "beyond all");
        x.pick(3);
        CHECK.is(x.lyingFrom(-30, -30), 0, "picked up");
        CHECK.is(x.lyingFrom(least, most), 11, "all but one");
    }

    private static void bestStand() {
        CHECK.about("promise 30: of several the smallest one; NONE without stands");
        CHECK.is(loaded(ABC).bestStand(), -1, "without stands");
        CHECK.is(loaded(ABC + ";stand left 0 z").bestStand(), 0, "one with the share 0");
        CHECK.is(loaded(ABC + ";stand left 0 z".repeat(6)).bestStand(), 0, "all with the share 0");
        CHECK.is(loaded(ABC + ";stand left 0 z".repeat(5) + ";stand left 0 a").bestStand(), 5,
                "the last one of six");
        CHECK.is(loaded(ABC + ";stand left 0 ab;stand left 0 abc;stand left 0 abc").bestStand(), 1,
                "of two with the share 1");
        CHECK.is(loaded(ABC + ";stand left 0 abc;stand left 0 ab").bestStand(), 0, "the first one");
        CHECK.is(loaded(HEAD + ";stand left 0 a;stand left 0 a").bestStand(), 0, "without bearers");
    }

    private static void readStands() {
        CHECK.about("promise 31: bit k for stand k");
        BannerParade x = loaded(ABC + ";stand left 0 z;stand right 0 cba;stand left 0 abc"
                + ";stand left 0 ab;stand left 201 abc;stand left 0 abc");
        CHECK.is(x.readStands(), 0, "at first");
        x.tick(1);
        CHECK.is(x.readStands(), 2 + 4 + 32, "behind a tick");
        BannerParade y = loaded(ABC + ";stand left 0 abc".repeat(6));
        y.tick(1);
        CHECK.is(y.readStands(), 63, "all");
        CHECK.is(loaded(ABC).readStands(), 0, "without stands");
    }

    // ---- promises 32 to 36

    private static void weakest() {
        CHECK.about("promise 32: of several the smallest one; NONE without bearers");
        CHECK.is(row(0).weakest(), -1, "without bearers");
        CHECK.is(row(1).weakest(), 0, "one bearer");
        BannerParade x = row(12);
        CHECK.is(x.weakest(), 0, "all alike");
        x.strengthen(11, -1);
        CHECK.is(x.weakest(), 11, "the last one");
        x.strengthen(4, -1);
        x.strengthen(7, -1);
        CHECK.is(x.weakest(), 4, "of three");
        x.strengthen(7, -1);
        CHECK.is(x.weakest(), 7, "98");
        for (int b = 0; b < 12; b++) {
            x.strengthen(b, -100);
        }
        CHECK.is(x.weakest(), 0, "all without strength");
    }

    private static void widest() {
        CHECK.about("promise 33: of several the smallest one; NONE with fewer than two bearers");
        CHECK.is(row(0).widest(), -1, "without bearers");
        CHECK.is(row(1).widest(), -1, "one bearer");
        CHECK.is(row(2).widest(), 1, "two bearers");
        BannerParade x = row(12);
        CHECK.is(x.widest(), 1, "all alike");
        x.strengthen(11, -1);
        x.tick(1);
        CHECK.is(x.widest(), 11, "the last one stands");
        x.strengthen(5, -1);
        x.tick(1);
        // bearers 6 to 10 are as near as SPACE to 5 and stand, too
        CHECK.is(x.bearer(5, 6) * 100 + x.bearer(11, 6), 1111, "two distances");
        CHECK.is(x.widest(), 5, "of two");
        x.tick(1);
        CHECK.is(x.bearer(5, 6) * 100 + x.bearer(11, 6), 1211, "two distances");
        CHECK.is(x.widest(), 5, "the greatest one");
    }

    private static void stretch() {
        CHECK.about("promise 34: from the first bearer to the last one; 0 with fewer than two");
        CHECK.is(row(0).stretch(), 0, "without bearers");
        BannerParade one = row(1);
        one.tick(5);
        CHECK.is(one.stretch(), 0, "one bearer");
        CHECK.is(row(2).stretch(), 10, "two bearers");
        BannerParade x = row(12);
        CHECK.is(x.stretch(), 110, "twelve bearers");
        x.strengthen(11, -1);
        x.tick(7);
        CHECK.is(x.stretch(), 117, "the last one stands");
        x.setStep(0, 200);
        x.tick(5);
        CHECK.is(x.stretch(), 1117, "the first one goes 1000 on");
    }

    private static void meanStrength() {
        CHECK.about("promises 35 and 36: 0.0 without bearers");
        CHECK.is(row(0).meanStrength(), 0.0, "without bearers");
        CHECK.is(row(0).strengthBits(), 0L, "without bearers");
        BannerParade x = row(12);
        CHECK.is(x.meanStrength(), 100.0, "all have 100");
        CHECK.is(x.strengthBits(), Double.doubleToLongBits(100.0), "all have 100");
        for (int b = 0; b < 12; b++) {
            x.strengthen(b, -100);
        }
        CHECK.is(x.meanStrength(), 0.0, "none has any");
        CHECK.is(x.strengthBits(), 0L, "none has any");
        for (int sum = 1; sum <= 100; sum++) {
            x.strengthen(11, 1);
            double mean = (double) sum / 12.0;
            CHECK.is(x.meanStrength(), mean, "the mean of " + sum);
            CHECK.is(x.strengthBits(), Double.doubleToLongBits(mean), "the bits of " + sum);
        }
        BannerParade y = row(1);
        int[] sums = {1, 2, 3, 4, 63, 64, 65, 99, 100};
        for (int sum : sums) {
            y.strengthen(0, -100);
            y.strengthen(0, sum);
            CHECK.is(y.meanStrength(), (double) sum, "one with " + sum);
            CHECK.is(y.strengthBits(), Double.doubleToLongBits(sum), "the bits of one with " + sum);
        }
    }
}

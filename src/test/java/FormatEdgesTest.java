/** The boundary cases of promises 1 to 6 and of section 6 of "Terms". */
public final class FormatEdgesTest {
    private static final Check CHECK = new Check();
    private static final String HEAD = "parade 50 30 100 5 20 60";
    private static final String[] TOKENS = (HEAD + " ; bearer a 40 10 ; bearer z 1 0"
            + " ; stand left 5 word ; stand right 9999 stand ; plan 7 0").split(" ");
    /** What is due of each token: L a literal, N a number, B a BEARER, W a WORD or E a LETTER. */
    private static final String KINDS = "LNNNNNNLLENNLLENNLLLNWLLLNWLLNB";
    private static final String FULL = "parade 1 0 1 0 1 0" + ";bearer a 1 0".repeat(12)
            + ";stand left 0 a".repeat(6) + ";plan 1 0".repeat(12);

    public static void main(String[] args) {
        newObject();
        appendOrder();
        appendUpTo700();
        emptyTexts();
        fullTexts();
        firstBytesAlone();
        bufferIsEmptied();
        endOfText();
        wrongTokens();
        wrongLetters();
        everyByte();
        wordLengths();
        numberLengths();
        leadingZeros();
        blanksOnlySeparate();
        anyWord();
        letters();
        bounds();
        bearerOfPlan();
        tooMany();
        firstErrorAndSmallestCode();
        errorOfLatestLoad();
        loadBringsAllBack();
        failedLoadKeepsAll();
        CHECK.end();
    }

    /** The text has an error of this code at this position. */
    private static void error(String text, int code, int at) {
        BannerParade x = new BannerParade();
        Check.fill(x, text);
        CHECK.fails(Check.ARGUMENT, text, () -> x.load(text.length()));
        CHECK.is(x.parseError(), code, "parseError() of " + text);
        CHECK.is(x.errorPosition(), at, "errorPosition() of " + text);
        CHECK.is(x.buffered(), 0, "buffered() behind " + text);
        CHECK.fails(Check.STATE, "count(0) behind " + text, () -> x.count(0));
    }

    private static BannerParade fine(String text, int bearers) {
        BannerParade x = new BannerParade();
        Check.fill(x, text);
        CHECK.is(x.load(text.length()), bearers, text);
        CHECK.is(x.parseError(), 0, "parseError() of " + text);
        CHECK.is(x.errorPosition(), -1, "errorPosition() of " + text);
        CHECK.is(x.buffered(), 0, "buffered() behind " + text);
        CHECK.is(x.count(0), bearers, "count(0) of " + text);
        return x;
    }

    // ---- promises 1 to 3

    private static void newObject() {
        CHECK.about("promise 1: without a parade and with an empty input buffer");
        BannerParade x = new BannerParade();
        CHECK.is(x.buffered(), 0, "buffered()");
        CHECK.fails(Check.INDEX, "load(1)", () -> x.load(1));
        CHECK.fails(Check.STATE, "count(0)", () -> x.count(0));
        CHECK.is(x.parseError(), 0, "parseError()");
        CHECK.is(x.errorPosition(), -1, "errorPosition()");
    }

    private static void appendOrder() {
        CHECK.about("promise 2: the four bytes of each argument in order");
        for (int i = 0; i < 20; i++) {
            for (int value : new int[] {'!', 0, 127, 128, 255}) {
                int[] words = {0x20202020, 0x20202020, 0x20202020, 0x20202020, 0x20202020};
                int shift = 24 - 8 * (i % 4);
                words[i / 4] = words[i / 4] & ~(255 << shift) | value << shift;
                BannerParade x = new BannerParade();
                x.append(words[0], words[1], words[2], words[3], words[4]);
                CHECK.fails(Check.ARGUMENT, "load", () -> x.load(20));
                CHECK.is(x.errorPosition(), i, value + " as byte " + i);
            }
        }
        BannerParade y = new BannerParade();
        y.append(0x70617261, 0x64652037, 0x20302031, 0x20302031, 0x20302020);
        CHECK.is(y.load(20), 0, "parade 7 0 1 0 1 0");
        CHECK.is(y.setting(0), 7, "SPACE");
    }

    private static void appendUpTo700() {
        CHECK.about("promise 2: NONE if there would be more than 700");
        BannerParade x = new BannerParade();
        String text = HEAD + " ".repeat(699 - HEAD.length()) + "!";
        for (int at = 0; at < 680; at += 20) {
            Check.fill(x, text.substring(at, at + 20));
            CHECK.is(x.buffered(), at + 20, "buffered()");
        }
        CHECK.is(x.append(0x20202020, 0x20202020, 0x20202020, 0x20202020, 0x20202021), 700,
                "the last one that fits");
        for (int k = 0; k < 3; k++) {
            CHECK.is(x.append(0, 0, 0, 0, 0), -1, "the first one that does not");
            CHECK.is(x.buffered(), 700, "nothing is appended");
        }
        CHECK.fails(Check.ARGUMENT, "load(700)", () -> x.load(700));
        CHECK.is(x.errorPosition(), 699, "the last byte, and nothing was appended over another");
        CHECK.is(x.append(0, 0, 0, 0, 0), 20, "there is room behind load");
    }

    private static void emptyTexts() {
        CHECK.about("promise 3: n bytes, none or blanks alone");
        error("", 1, 0);
        error(" ", 1, 1);
        error(" ".repeat(700), 1, 700);
        BannerParade x = new BannerParade();
        Check.fill(x, HEAD);
        CHECK.fails(Check.ARGUMENT, "load(0) of more", () -> x.load(0));
        CHECK.is(x.errorPosition(), 0, "errorPosition()");
        CHECK.is(x.buffered(), 0, "the buffer is emptied");
        Check.fill(x, "    ");
        CHECK.fails(Check.ARGUMENT, "load(0) of blanks", () -> x.load(0));
        CHECK.is(x.errorPosition(), 0, "errorPosition()");
    }

    private static void fullTexts() {
        CHECK.about("section 6: the input buffer holds at most 700 bytes");
        String pad = " ".repeat(700 - HEAD.length() - ";stand left 12 xy".length());
        BannerParade x = fine(HEAD + pad + ";stand left 12 xy", 0);
        CHECK.is(x.stand(0, 2), 2, "the word up to byte 699");
        CHECK.is(x.wordByte(0, 1), (int) 'y', "its last byte");
        BannerParade y = fine(" " + pad + HEAD + ";bearer q 123 14", 1);
        CHECK.is(y.bearer(0, 3), 14, "the number up to byte 699");
        error(HEAD + pad + ";stand left 12   ", 1, 700);
        error(HEAD + pad + ";stand left 12 x;", 1, 700);
        error(HEAD + pad + ";stand left 12 ;;", 1, 698);
        fine(FULL, 12);
        StringBuilder numbers = new StringBuilder(FULL);
        while (numbers.length() < 700) {
            numbers.insert(numbers.length() - 2, ' ');
        }
        CHECK.is(fine(numbers.toString(), 12).count(2), 12, "plans");
    }

    private static void firstBytesAlone() {
        CHECK.about("promise 3: the first n bytes");
        String text = HEAD + ";bearer a 123 19;stand left 1234 abcdef";
        int[] complete = {24, 39, 40, 58, 63};
        for (int n : complete) {
            BannerParade x = new BannerParade();
            Check.fill(x, text);
            CHECK.is(x.load(n), n > 24 ? 1 : 0, "load(" + n + ")");
            CHECK.is(x.count(1), n > 40 ? 1 : 0, "stands of load(" + n + ")");
        }
        int[] cut = {25, 31, 33, 34, 35, 37, 38, 41, 46, 51, 52, 56, 57};
        for (int n : cut) {
            BannerParade x = new BannerParade();
            Check.fill(x, text);
            CHECK.fails(Check.ARGUMENT, "load(" + n + ")", () -> x.load(n));
            CHECK.is(x.errorPosition(), n, "the end of the text, not of the buffer");
        }
        BannerParade y = new BannerParade();
        Check.fill(y, text);
        y.load(39);
        CHECK.is(y.bearer(0, 3), 1, "a number that is cut");
        Check.fill(y, text);
        y.load(60);
        CHECK.is(y.stand(0, 1) + y.stand(0, 2), 1234 + 3, "a word that is cut");
        error("parad", 1, 0);
        error("p", 1, 0);
        error(HEAD + ";be", 1, 25);
    }

    private static void bufferIsEmptied() {
        CHECK.about("promise 3: empties the buffer, even if the parse fails");
        for (int n : new int[] {0, 1, 23, 24, 25, 40}) {
            BannerParade x = new BannerParade();
            Check.fill(x, HEAD + ";bearer q 1 1");
            CHECK.is(x.buffered(), 40, "buffered()");
            try {
                x.load(n);
            } catch (IllegalArgumentException e) {
                CHECK.is(n < 23 || n == 25, true, "load(" + n + ") has an error");
            }
            CHECK.is(x.buffered(), 0, "buffered() behind load(" + n + ")");
            CHECK.fails(Check.INDEX, "load(1)", () -> x.load(1));
            Check.fill(x, HEAD);
            CHECK.is(x.load(24), 0, "nothing of it is left");
        }
    }

    // ---- section 6, the grammar

    private static String joined(int from, int to, String between) {
        StringBuilder text = new StringBuilder();
        for (int k = from; k < to; k++) {
            text.append(k > from ? between : "").append(TOKENS[k]);
        }
        return text.toString();
    }

    private static void endOfText() {
        CHECK.about("code 1: the end of the text where a line is not complete");
        CHECK.is(KINDS.length(), TOKENS.length, "tokens");
        for (int k = 0; k <= TOKENS.length; k++) {
            String text = joined(0, k, " ");
            boolean complete = k == TOKENS.length || TOKENS[k].equals(";");
            for (String end : new String[] {"", " ", "   "}) {
                String whole = text + end;
                if (complete) {
                    fine(whole, k < 11 ? 0 : k < 15 ? 1 : 2);
                } else {
                    error(whole, 1, whole.length());
                }
            }
        }
    }

    private static void wrongTokens() {
        CHECK.about("code 1: a token that the grammar does not allow here");
        String[] wrongs = {";", "7", "word", "!", "Word", "abcdefghi", "12345", "00007", "parade",
            "bearer", "stand", "plan", "left", "right", "x", "-", "."};
        for (int k = 0; k < TOKENS.length; k++) {
            for (String wrong : wrongs) {
                for (String between : new String[] {" ", "  "}) {
                    String ahead = joined(0, k, between) + (k > 0 ? between : "");
                    String behind = joined(k + 1, TOKENS.length, between);
                    replaced(k, wrong, ahead, between + behind);
                }
            }
        }
        error(joined(0, TOKENS.length, " ") + " 0", 1, joined(0, TOKENS.length, " ").length() + 1);
        error(joined(0, TOKENS.length, " ") + " a", 1, joined(0, TOKENS.length, " ").length() + 1);
        error(HEAD + ";stand left 1 a a", 1, HEAD.length() + 16);
        error(HEAD + ";bearer a 1 1 1", 1, HEAD.length() + 14);
        error(HEAD + " 1", 1, HEAD.length() + 1);
        error(HEAD + ";" + HEAD, 1, HEAD.length() + 1);
    }

    private static void replaced(int k, String wrong, String ahead, String behind) {
        String text = ahead + wrong + behind;
        char kind = KINDS.charAt(k);
        boolean isWord = wrong.matches("[a-z]{1,8}");
        if (wrong.equals(TOKENS[k]) || kind == 'N' && wrong.equals("7") || kind == 'W' && isWord
                || kind == 'E' && wrong.equals("x") || k == 19 && wrong.equals("right")
                || k == 24 && wrong.equals("left")) {
            fine(text, 2);
        } else if (kind == 'L' && k > 1 && TOKENS[k - 1].equals(";")
                && wrong.matches("bearer|stand|plan")) {
            // the line is another one then, and its next token is the wrong one, or one behind it
            BannerParade x = new BannerParade();
            Check.fill(x, text);
            CHECK.fails(Check.ARGUMENT, text, () -> x.load(text.length()));
            CHECK.is(x.errorPosition() > ahead.length(), true, "behind the first word, " + text);
        } else {
            error(text, kind == 'B' && wrong.equals("7") ? 2 : 1, ahead.length());
        }
    }

    private static void wrongLetters() {
        CHECK.about("code 1: a word that differs from the quoted one by a letter");
        for (int k = 0; k < TOKENS.length; k++) {
            if (KINDS.charAt(k) == 'L' && !TOKENS[k].equals(";")) {
                String ahead = joined(0, k, " ") + (k > 0 ? " " : "");
                String behind = " " + joined(k + 1, TOKENS.length, " ");
                for (int i = 0; i < TOKENS[k].length(); i++) {
                    String start = TOKENS[k].substring(0, i);
                    String end = TOKENS[k].substring(i + 1);
                    error(ahead + start + "z" + end + behind, 1, ahead.length());
                    error(ahead + start + end + behind, 1, ahead.length());
                }
                error(ahead + TOKENS[k] + "s" + behind, 1, ahead.length());
            }
        }
    }

    private static void everyByte() {
        CHECK.about("code 1: a byte that starts no token; blanks (byte 32) only separate");
        for (int value = 0; value < 256; value++) {
            char sign = (char) value;
            String text = HEAD + sign;
            if (sign == ' ' || sign >= '0' && sign <= '9') {
                fine(text, 0);
            } else {
                error(text, 1, sign == ';' ? text.length() : HEAD.length());
            }
            String apart = HEAD + ";bearer" + sign + "a 1 1";
            if (sign == ' ') {
                fine(apart, 1);
            } else {
                boolean letter = sign >= 'a' && sign <= 'z';
                error(apart, 1, HEAD.length() + (letter ? 1 : 7));
            }
        }
    }

    private static void wordLengths() {
        CHECK.about("words of 1 to 8 letters; code 1: a word of 9 or more letters");
        for (int length = 1; length <= 12; length++) {
            String text = HEAD + ";stand right 3 " + "z".repeat(length);
            if (length <= 8) {
                CHECK.is(fine(text, 0).stand(0, 2), length, "the length of the word");
            } else {
                error(text, 1, HEAD.length() + 15);
            }
        }
        error("paradeparade", 1, 0);
        error(HEAD + ";bearerbearer a 1 1", 1, HEAD.length() + 1);
        error(HEAD + ";stand leftleftleft 1 a", 1, HEAD.length() + 7);
    }

    private static void numberLengths() {
        CHECK.about("numbers of 1 to 4 digits; code 1: a number of 5 or more digits");
        String[] numbers = {"7", "07", "007", "0007", "00007", "000007", "0000000007"};
        for (int k = 0; k < numbers.length; k++) {
            String text = "parade " + numbers[k] + " 0 1 0 1 0";
            if (k < 4) {
                CHECK.is(fine(text, 0).setting(0), 7, "SPACE " + numbers[k]);
            } else {
                error(text, 1, 7);
            }
        }
        error("parade 1 " + "9".repeat(30), 1, 9);
        error("parade 1 4294967296 1 0 1 0", 1, 9);
    }

    private static void leadingZeros() {
        CHECK.about("leading zeros do not matter for its value");
        BannerParade x = fine("parade 0009 0000 0010 000 0001 010;bearer a 0200 0020;bearer b 01 00"
                + ";stand left 0099 a;plan 0011 0000", 2);
        int[] settings = {9, 0, 10, 0, 1, 10};
        for (int what = 0; what < 6; what++) {
            CHECK.is(x.setting(what), settings[what], "setting " + what);
        }
        CHECK.is(x.bearer(0, 2) + x.bearer(0, 3), 220, "STEP and LAG");
        CHECK.is(x.stand(0, 1), 99, "PLACE");
        CHECK.is(x.plan(0, 0), 11, "TIME");
        error("parade 0000 0 1 0 1 0", 2, 7);
        error("parade 1 0 1 0 00 0", 2, 15);
    }

    private static void blanksOnlySeparate() {
        CHECK.about("blanks only separate; a run ends at the first byte of another kind");
        fine("parade1 0 1 0 1 0;bearer a1 0;bearer b1 0;stand left0w;plan1 0", 2);
        fine("   parade   1   0   1   0   1   0   ;   bearer   a   1   0   ", 1);
        error("par ade 1 0 1 0 1 0", 1, 0);
        error("parade 1 0 1 0 1 0;bearer a 1 0 0", 1, 32);
        error("parade1 0 1 0 1 0a", 1, 17);
        error("parade101010", 1, 6);
        BannerParade x = fine("parade 1 0 1 0 1 0;stand left 12ab;stand right 3c", 0);
        CHECK.is(x.stand(0, 1), 12, "the run of digits");
        CHECK.is(x.wordByte(0, 0), (int) 'a', "the run of letters");
        CHECK.is(x.stand(0, 2), 2, "its length");
        error("parade 1 0 1 0 1 0;stand left 12ab3", 1, 34);
    }

    private static void anyWord() {
        CHECK.about("WORD is any word, also one that is quoted here");
        String[] words = {"parade", "bearer", "stand", "left", "right", "plan"};
        StringBuilder text = new StringBuilder(HEAD);
        for (String word : words) {
            text.append(";stand left 1 ").append(word);
        }
        BannerParade x = fine(text.toString(), 0);
        for (int s = 0; s < 6; s++) {
            StringBuilder read = new StringBuilder();
            for (int i = 0; x.wordByte(s, i) != -1; i++) {
                read.append((char) x.wordByte(s, i));
            }
            CHECK.is(read.toString(), words[s], "word " + s);
        }
    }

    private static void letters() {
        CHECK.about("LETTER is a word of one letter; several bearers may have the same one");
        for (char letter = 'a'; letter <= 'z'; letter++) {
            CHECK.is(fine(HEAD + ";bearer " + letter + " 1 1", 1).bearer(0, 8), letter - 'a' + 1,
                    "the letter " + letter);
        }
        error(HEAD + ";bearer aa 1 1", 1, HEAD.length() + 8);
        error(HEAD + ";bearer left 1 1", 1, HEAD.length() + 8);
        error(HEAD + ";bearer abcdefghi 1 1", 1, HEAD.length() + 8);
        error(HEAD + ";bearer 1 1 1", 1, HEAD.length() + 8);
        CHECK.is(fine(HEAD + ";bearer q 1 1".repeat(12), 12).copies(17), 12, "twelve alike");
    }

    // ---- section 6, the bounds

    private static void bounded(String ahead, String behind, int least, int greatest) {
        for (int value : new int[] {least, greatest}) {
            fine(ahead + value + behind, ahead.contains(";bearer") ? 1 : 0);
        }
        if (least > 0) {
            error(ahead + (least - 1) + behind, 2, ahead.length());
        }
        error(ahead + (greatest + 1) + behind, greatest < 9999 ? 2 : 1, ahead.length());
        error(ahead + "9999" + (greatest < 9999 ? "" : "0") + behind, greatest < 9999 ? 2 : 1,
                ahead.length());
    }

    private static void bounds() {
        CHECK.about("code 2: a number out of its bounds");
        bounded("parade ", " 0 1 0 1 0", 1, 999);
        bounded("parade 1 ", " 1 0 1 0", 0, 9999);
        bounded("parade 1 0 ", " 0 1 0", 1, 9999);
        bounded("parade 1 0 1 ", " 1 0", 0, 50);
        bounded("parade 1 0 1 0 ", " 0", 1, 100);
        bounded("parade 1 0 1 0 1 ", "", 0, 9999);
        bounded(HEAD + ";bearer a ", " 0", 1, 200);
        bounded(HEAD + ";bearer a 1 ", "", 0, 20);
        bounded(HEAD + ";stand left ", " a", 0, 9999);
        bounded(HEAD + ";stand right ", " a", 0, 9999);
        String row = HEAD + ";bearer a 1 0;bearer b 1 0;plan ";
        for (int time : new int[] {1, 5000}) {
            CHECK.is(fine(row + time + " 0", 2).plan(0, 0), time, "TIME");
        }
        error(row + "0 0", 2, row.length());
        error(row + "5001 0", 2, row.length());
        error(row + "9999 0", 2, row.length());
        error(row + "10000 0", 1, row.length());
        BannerParade x = fine("parade 999 9999 9999 50 100 9999", 0);
        int[] greatest = {999, 9999, 9999, 50, 100, 9999};
        for (int what = 0; what < 6; what++) {
            CHECK.is(x.setting(what), greatest[what], "setting " + what);
        }
    }

    private static void bearerOfPlan() {
        CHECK.about("BEARER, told ahead of the plan with one more behind it, told ahead, too");
        for (int bearers = 0; bearers <= 12; bearers++) {
            String text = HEAD + ";bearer a 1 0".repeat(bearers) + ";plan 9 ";
            if (bearers >= 2) {
                BannerParade x = fine(text + "0;plan 9 " + (bearers - 2), bearers);
                CHECK.is(x.plan(1, 1), bearers - 2, "the last one but one");
            } else {
                error(text + 0, 2, text.length());
            }
            error(text + Math.max(0, bearers - 1), 2, text.length());
            error(text + bearers, 2, text.length());
            error(text + 9999, 2, text.length());
            if (bearers < 12) {
                error(text + Math.max(0, bearers - 1) + ";bearer b 1 0", 2, text.length());
            }
        }
        fine(HEAD + ";bearer a 1 1;bearer b 1 1;plan 1 0;bearer c 1 1;plan 1 1", 3);
    }

    private static void tooMany() {
        CHECK.about("code 4: the first word of a line of which there are as many as there may be");
        String[] lines = {";bearer a 1 0", ";stand left 0 a", ";plan 1 0"};
        int[] most = {12, 6, 12};
        for (int kind = 0; kind < 3; kind++) {
            String row = HEAD + (kind == 2 ? ";bearer a 1 0;bearer b 1 0" : "");
            String full = row + lines[kind].repeat(most[kind]);
            int bearers = kind == 0 ? 12 : kind == 1 ? 0 : 2;
            CHECK.is(fine(full, bearers).count(kind), most[kind], "as many as there may be");
            String word = lines[kind].substring(1, lines[kind].indexOf(' '));
            error(full + lines[kind], 4, full.length() + 1);
            error(full + ";" + word, 4, full.length() + 1);
            error(full + "  ;  " + word + " 99999", 4, full.length() + 5);
            error(full + ";" + word + "s", 1, full.length() + 1);
            error(full + ";", 1, full.length() + 1);
        }
        fine(FULL, 12);
        for (String line : lines) {
            error(FULL + line, 4, FULL.length() + 1);
        }
    }

    private static void firstErrorAndSmallestCode() {
        CHECK.about("parsing stops at the first token at which an error is found");
        error("parade 0 x", 2, 7);
        error("parade x 0", 1, 7);
        error(HEAD + ";bearer a 0 99;bearer", 2, HEAD.length() + 10);
        error(HEAD + ";bearer a 1 99;bearer", 2, HEAD.length() + 12);
        error(FULL + ";plan;stand;!", 4, FULL.length() + 1);
        error(FULL + ";!;plan", 1, FULL.length() + 1);
        CHECK.about("if several errors apply to that token, the smallest code");
        error("parade 00000 0 1 0 1 0", 1, 7);
        error("parade 12345 0 1 0 1 0", 1, 7);
        error(HEAD + ";plan 50010 0", 1, HEAD.length() + 6);
        error(HEAD + ";plan 1 00000", 1, HEAD.length() + 8);
    }

    // ---- promises 3 to 6

    private static void errorOfLatestLoad() {
        CHECK.about("promises 4 and 5: of the latest load that did not throw IndexOutOfBounds");
        String[] texts = {"parade 0", HEAD, "", FULL + ";plan", HEAD, FULL + "!"};
        int[] codes = {2, 0, 1, 4, 0, 1};
        int[] places = {7, -1, 0, FULL.length() + 1, -1, FULL.length()};
        BannerParade x = new BannerParade();
        for (int k = 0; k < texts.length; k++) {
            Check.fill(x, texts[k]);
            int length = texts[k].length();
            int before = x.parseError() * 1000 + x.errorPosition();
            CHECK.fails(Check.INDEX, "load", () -> x.load(length + 20));
            CHECK.fails(Check.INDEX, "load", () -> x.load(-1));
            CHECK.is(x.parseError() * 1000 + x.errorPosition(), before, "they stay");
            if (codes[k] == 0) {
                CHECK.is(x.load(length), 0, "load");
            } else {
                CHECK.fails(Check.ARGUMENT, "load", () -> x.load(length));
            }
            CHECK.is(x.parseError(), codes[k], "parseError() of text " + k);
            CHECK.is(x.errorPosition(), places[k], "errorPosition() of text " + k);
        }
    }

    private static void loadBringsAllBack() {
        CHECK.about("promise 3: on success the parade replaces the previous one");
        String text = "parade 10 9999 1 5 20 60;bearer a 40 10;bearer b 30 20;stand left 0 a"
                + ";stand left 0 z;plan 1 0;plan 300 0";
        BannerParade x = Check.loaded(text);
        String first = Whole.state(x);
        for (int what = 0; what < 6; what++) {
            x.set(what, 9);
        }
        x.set(1, 9999);
        x.set(4, 100);
        x.set(5, 0);
        x.strengthen(1, -1);
        x.drop(1);
        CHECK.is(x.tick(1), 1, "a word that is read, and a plan that is missed");
        x.set(5, 9999);
        x.swap(0);
        x.setStep(1, 99);
        x.addPlan(99, 0);
        x.save(0);
        x.save(1);
        x.rest(3);
        int length = x.writePlaces();
        String places = Check.written(x, length);
        CHECK.is(Check.load(x, text), 2, "load");
        CHECK.is(Whole.state(x), first, "all of the state");
        CHECK.is(x.undoable(), 0, "nothing can be undone");
        CHECK.fails(Check.STATE, "undo()", x::undo);
        CHECK.fails(Check.STATE, "restore(0)", () -> x.restore(0));
        CHECK.fails(Check.STATE, "restore(1)", () -> x.restore(1));
        CHECK.is(Check.written(x, length), places, "the text stays");
        CHECK.is(Check.load(x, HEAD), 0, "load of a parade without lines");
        for (int what : new int[] {0, 1, 2, 3, 4, 5, 6, 7, 8, 9, 10, 11, 12, 13, 14, 15, 16}) {
            CHECK.is(x.count(what), 0, "count(" + what + ")");
        }
    }

    private static void failedLoadKeepsAll() {
        CHECK.about("promise 3: the text has an error; the previous parade stays");
        String[] texts = {"", "parade 1 2 3 4 5 6;", "parade 0", FULL + ";plan", FULL + "!",
            "parade 9 9 9 9 9 9;bearer z 9 9;stand left 9 z;bearer x"};
        for (String text : texts) {
            BannerParade x = busy();
            BannerParade twin = busy();
            Check.fill(x, text);
            CHECK.fails(Check.ARGUMENT, "load of " + text, () -> x.load(text.length()));
            CHECK.fails(Check.ARGUMENT, "load(0)", () -> x.load(0));
            CHECK.fails(Check.ARGUMENT, "load(0)", () -> twin.load(0));
            CHECK.is(Whole.used(x), Whole.used(twin), "all but the error, behind " + text);
        }
    }

    private static BannerParade busy() {
        BannerParade x = Check.loaded("parade 10 9999 999 5 20 60;bearer a 40 10;bearer b 30 20"
                + ";stand left 0 ab;plan 3 0;plan 5 0");
        x.tick(1);
        x.save(0);
        x.drop(1);
        x.save(1);
        x.tick(2);
        x.writeRow();
        return x;
    }
}

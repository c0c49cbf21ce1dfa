/** Promises 49 to 52: texts. */
public final class TextsTest {
    private static final Check CHECK = new Check();
    private static final String ROW = "parade 10 30 5 5 20 10"
            + ";bearer a 10 0;bearer z 10 0;bearer c 10 0"
            + ";stand left 0 abca;stand right 0 a;stand left 500 a";

    public static void main(String[] args) {
        writeStand();
        writeRow();
        writePlaces();
        textByte();
        CHECK.end();
    }

    private static void text(BannerParade x, int length, String want) {
        CHECK.is(length, want.length(), "the length of " + want);
        CHECK.is(Check.written(x, length), want, "the text");
        CHECK.fails(Check.INDEX, "textByte behind it", () -> x.textByte(length));
        CHECK.fails(Check.INDEX, "textByte(-1)", () -> x.textByte(-1));
    }

    private static void writeStand() {
        CHECK.about("promise 49");
        BannerParade x = Check.loaded(ROW);
        text(x, x.writeStand(0), "a z c");
        text(x, x.writeStand(1), "c z a");
        text(x, x.writeStand(2), "");
        x.set(2, 10);
        text(x, x.writeStand(1), "cza");
        x.drop(1);
        text(x, x.writeStand(1), "c a");
        CHECK.fails(Check.INDEX, "writeStand(-1)", () -> x.writeStand(-1));
        CHECK.fails(Check.INDEX, "writeStand(3)", () -> x.writeStand(3));
        CHECK.is(Check.written(x, 3), "c a", "the text stays");
        BannerParade y = Check.loaded("parade 2 30 1 0 1 0;stand left 0 a"
                + ";bearer k 1 0".repeat(12));
        text(y, y.writeStand(0), "k k k k k k k k k k k k");
    }

    private static void writeRow() {
        CHECK.about("promise 50");
        BannerParade x = Check.loaded(ROW);
        text(x, x.writeRow(), "azc");
        x.drop(0);
        text(x, x.writeRow(), "-zc");
        x.swap(0);
        x.drop(2);
        text(x, x.writeRow(), "z--");
        BannerParade y = Check.loaded("parade 1 0 1 0 1 0");
        text(y, y.writeRow(), "");
        BannerParade z = Check.loaded("parade 1 0 1 0 1 0" + ";bearer q 1 0".repeat(12));
        text(z, z.writeRow(), "qqqqqqqqqqqq");
    }

    private static void writePlaces() {
        CHECK.about("promise 51");
        BannerParade x = Check.loaded(ROW);
        text(x, x.writePlaces(), "0,-10,-20");
        x.tick(1);
        text(x, x.writePlaces(), "10,0,-10");
        x.tick(9);
        text(x, x.writePlaces(), "100,90,80");
        BannerParade y = Check.loaded("parade 1 0 1 0 1 0");
        text(y, y.writePlaces(), "");
        StringBuilder places = new StringBuilder("0");
        StringBuilder later = new StringBuilder("1000000");
        for (int b = 1; b < 12; b++) {
            places.append(",-").append(999 * b);
            later.append(',').append(1000000 - 999 * b);
        }
        BannerParade z = Check.loaded("parade 999 0 1 0 1 0" + ";bearer q 200 0".repeat(12));
        text(z, z.writePlaces(), places.toString());
        for (int k = 0; k < 50; k++) {
            z.tick(100);
        }
        text(z, z.writePlaces(), later.toString());
    }

    private static void textByte() {
        CHECK.about("promise 52");
        BannerParade none = new BannerParade();
        CHECK.fails(Check.INDEX, "textByte(0) unloaded", () -> none.textByte(0));
        BannerParade x = Check.loaded(ROW);
        CHECK.fails(Check.INDEX, "textByte(0) before the first text", () -> x.textByte(0));
        x.save(0);
        int length = x.writePlaces();
        x.tick(5);
        x.undo();
        x.restore(0);
        Check.load(x, ROW);
        Check.fill(x, "parade");
        CHECK.fails(Check.ARGUMENT, "load", () -> x.load(6));
        text(x, length, "0,-10,-20");
        CHECK.is(x.textByte(2), 45, "textByte(2)");
        text(x, x.writeRow(), "azc");
        CHECK.fails(Check.INDEX, "a byte of the longer text ahead", () -> x.textByte(5));
        CHECK.fails(Check.INDEX, "greatest", () -> x.textByte(Integer.MAX_VALUE));
        CHECK.fails(Check.INDEX, "least", () -> x.textByte(Integer.MIN_VALUE));
        text(x, x.writeStand(2), "");
        CHECK.fails(Check.INDEX, "textByte(0) of an empty text", () -> x.textByte(0));
    }
}

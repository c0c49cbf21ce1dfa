import java.lang.reflect.InvocationTargetException;
import java.lang.reflect.Method;
import java.lang.reflect.Modifier;
import java.util.Arrays;
import java.util.List;

/** Promises 1 to 6: a new object, the input buffer, load and its errors. */
public final class InputTest {
    private static final Check CHECK = new Check();
    private static final String HEAD = "parade 50 30 100 5 20 60";

    public static void main(String[] args) {
        newObject();
        append();
        load();
        loadReplaces();
        failedLoadKeeps();
        grammarErrors();
        bounds();
        tooMany();
        tokens();
        parseErrorAndPosition();
        buffered();
        CHECK.end();
    }

    private static void newObject() {
        CHECK.about("promise 1");
        BannerParade x = new BannerParade();
        CHECK.is(x.buffered(), 0, "buffered()");
        CHECK.is(x.parseError(), 0, "parseError()");
        CHECK.is(x.errorPosition(), BannerParade.NONE, "errorPosition()");
        CHECK.is(x.undoable(), 0, "undoable()");
        CHECK.fails(Check.INDEX, "textByte(0)", () -> x.textByte(0));
        CHECK.is(BannerParade.NONE, -1, "NONE");
        List<String> others = List.of("append", "load", "parseError", "errorPosition", "buffered",
                "textByte", "undoable", "restore");
        for (Method method : BannerParade.class.getDeclaredMethods()) {
            if (Modifier.isPublic(method.getModifiers()) && !others.contains(method.getName())) {
                for (int argument : new int[] {-1, 0, 1, 1000000}) {
                    CHECK.is(thrown(method, argument), Check.STATE, method.getName() + " unloaded");
                }
            }
        }
        CHECK.fails(Check.STATE, "restore(0)", () -> x.restore(0));
        CHECK.fails(Check.INDEX, "restore(2)", () -> x.restore(2));
    }

    private static Object thrown(Method method, int argument) {
        Object[] arguments = new Object[method.getParameterCount()];
        Arrays.fill(arguments, argument);
        try {
            return method.invoke(new BannerParade(), arguments);
        } catch (InvocationTargetException e) {
            return e.getCause().getClass();
        } catch (IllegalAccessException e) {
            return e;
        }
    }

    private static void append() {
        CHECK.about("promise 2");
        BannerParade x = new BannerParade();
        for (int k = 1; k <= 35; k++) {
            CHECK.is(x.append(-1, 0, 1, 2, 3), 20 * k, "append");
        }
        CHECK.is(x.append(0, 0, 0, 0, 0), BannerParade.NONE, "append to 720");
        CHECK.is(x.buffered(), 700, "buffered() behind it");
        BannerParade y = new BannerParade();
        y.append(0x70617261, 0x64652031, 0x20302031, 0x20302031, 0x20303b62);
        y.append(0x65617265, 0x72207120, 0x3720383b, 0x20202020, 0x20202020);
        CHECK.is(y.load(31), 1, "load of the bytes in order");
        CHECK.is(y.bearer(0, 8), 17, "the letter q");
        CHECK.is(y.bearer(0, 2), 7, "STEP");
        CHECK.is(y.bearer(0, 3), 8, "LAG");
        BannerParade z = new BannerParade();
        z.append(0xf0e18000, 0, 0, 0, 0);
        CHECK.fails(Check.ARGUMENT, "bytes of 128 and more", () -> z.load(3));
        CHECK.is(z.parseError() * 100 + z.errorPosition(), 100, "error and place");
        for (int k = 0; k < 35; k++) {
            z.append(0x20202020, 0x20202020, 0x20202020, 0x20202020, 0x20202020);
        }
        CHECK.fails(Check.ARGUMENT, "700 blanks", () -> z.load(700));
        CHECK.is(z.errorPosition(), 700, "its end");
        CHECK.is(z.append(1, 1, 1, 1, 1), 20, "append behind load");
    }

    private static void load() {
        CHECK.about("promise 3");
        BannerParade x = new BannerParade();
        CHECK.fails(Check.INDEX, "load(-1)", () -> x.load(-1));
        CHECK.fails(Check.INDEX, "load(1)", () -> x.load(1));
        String text = HEAD + ";bearer a 40 10;bearer z 200 20;bearer a 1 0"
                + ";stand left 0 parade;stand right 9999 stand;plan 5000 1;plan 1 0";
        CHECK.is(Check.load(x, text), 3, "load");
        CHECK.is(x.count(3), 0, "the time");
        int[] settings = {50, 30, 100, 5, 20, 60};
        for (int what = 0; what < 6; what++) {
            CHECK.is(x.setting(what), settings[what], "setting " + what);
        }
        int[][] bearers = {{1, 0, 40, 10, 100}, {26, -50, 200, 20, 100}, {1, -100, 1, 0, 100}};
        for (int b = 0; b < 3; b++) {
            for (int what = 0; what < 5; what++) {
                CHECK.is(x.bearer(b, what), bearers[b][what], "bearer " + b + " " + what);
            }
            CHECK.is(x.bearer(b, 8), bearers[b][0], "own letter of " + b);
            CHECK.is(x.bearer(b, 7), 0, "moved " + b);
        }
        CHECK.is(x.count(1), 2, "stands");
        CHECK.is(x.stand(0, 3), -1, "word 0 not read");
        CHECK.is(x.wordByte(1, 4), (int) 'd', "a word that is quoted in the grammar");
        CHECK.is(x.count(2), 2, "plans");
        CHECK.is(x.plan(0, 0), 5000, "the first plan");
        CHECK.is(x.plan(0, 1), 1, "its bearer");
        CHECK.is(x.plan(1, 2), 0, "to come");
        CHECK.is(x.count(5) + x.count(6) + x.count(7) + x.count(8) + x.count(9), 0, "counts");
        CHECK.is(Check.load(x, "parade 1 0 1 0 1 0"), 0, "no lines");
        CHECK.is(Check.load(x, "parade 999 9999 9999 50 100 9999"), 0, "greatest settings");
    }

    private static void loadReplaces() {
        CHECK.about("promise 3, behind changes");
        BannerParade x = Check.loaded(HEAD + ";bearer a 40 10;bearer b 40 10;stand left 40 b");
        x.save(0);
        x.save(1);
        x.drop(0);
        x.tick(9);
        x.swap(0);
        int length = x.writeRow();
        String row = Check.written(x, length);
        Check.load(x, HEAD + ";bearer c 40 10;bearer d 40 10;stand left 40 b;plan 4 0");
        CHECK.is(x.undoable(), 0, "undoable()");
        CHECK.fails(Check.STATE, "undo()", x::undo);
        CHECK.fails(Check.STATE, "restore(0)", () -> x.restore(0));
        CHECK.fails(Check.STATE, "restore(1)", () -> x.restore(1));
        CHECK.is(Check.written(x, length), row, "the text stays");
        CHECK.is(x.count(3), 0, "the time");
        CHECK.is(x.count(5), 0, "none lies");
        CHECK.is(x.count(6) + x.count(7) + x.count(8) + x.count(9), 0, "counts");
        CHECK.is(x.bearer(0, 0), 3, "its own banner");
        CHECK.is(x.bearer(1, 4), 100, "strength");
        CHECK.is(x.bearer(1, 1), -50, "place");
        CHECK.is(x.bearer(0, 7), 0, "moved");
        CHECK.is(x.readStands(), 0, "no word read");
    }

    private static void failedLoadKeeps() {
        CHECK.about("promise 3, an error");
        BannerParade x = Check.loaded(HEAD + ";bearer a 40 10;stand left 40 a");
        x.save(1);
        x.tick(1);
        Check.fill(x, HEAD + ";bearer b 1 1;bearer");
        CHECK.fails(Check.ARGUMENT, "load", () -> x.load(45));
        CHECK.is(x.buffered(), 0, "the buffer is empty");
        CHECK.is(x.count(0), 1, "the previous bearers");
        CHECK.is(x.bearer(0, 1), 40, "the previous place");
        CHECK.is(x.readStands(), 1, "the word that was read");
        CHECK.is(x.undoable(), 1, "undoable()");
        CHECK.is(x.restore(1), 0, "restore(1)");
        BannerParade y = new BannerParade();
        CHECK.fails(Check.ARGUMENT, "load(0)", () -> y.load(0));
        CHECK.is(y.errorPosition(), 0, "at the end of nothing");
        CHECK.fails(Check.STATE, "count(0)", () -> y.count(0));
    }

    /** The text has an error of this code at the sign | , which is taken out. */
    private static void error(String marked, int code) {
        int at = marked.indexOf('|');
        String text = marked.replace("|", "");
        BannerParade x = new BannerParade();
        Check.fill(x, text);
        CHECK.fails(Check.ARGUMENT, marked, () -> x.load(text.length()));
        CHECK.is(x.parseError(), code, marked + " parseError()");
        CHECK.is(x.errorPosition(), at, marked + " errorPosition()");
    }

    private static void fine(String text, int bearers) {
        BannerParade x = new BannerParade();
        Check.fill(x, text);
        CHECK.is(x.load(text.length()), bearers, text);
        CHECK.is(x.parseError(), 0, text + " parseError()");
        CHECK.is(x.errorPosition(), -1, text + " errorPosition()");
    }

    private static void grammarErrors() {
        CHECK.about("section 6, code 1");
        String[] marked = {
            "|", "   |", "|parad", "|parades 1", "|;", "|5", "|bearer a 1 1", "parade|",
            "parade  |", "parade 1 0 1 0 1|", "parade 1 0 1 0 1 |a", "parade 1 0 1 0 1 |;",
            HEAD + ";|", HEAD + "; |", HEAD + " |bearer a 1 1", HEAD + " |7",
            HEAD + ";|;", HEAD + ";|parade", HEAD + ";|left", HEAD + ";|7", HEAD + ";|bearers a",
            HEAD + ";bearer|", HEAD + ";bearer |ab 1 1", HEAD + ";bearer |7 1 1",
            HEAD + ";bearer a|", HEAD + ";bearer a 1|", HEAD + ";bearer a 1 |;",
            HEAD + ";bearer a |b 1", HEAD + ";bearer a 1 1 |1", HEAD + ";bearer a 1 1|.",
            HEAD + ";stand |up 1 a", HEAD + ";stand |1 a", HEAD + ";stand left |a 1",
            HEAD + ";stand left 1|", HEAD + ";stand left 1 |1", HEAD + ";stand left 1 |;",
            HEAD + ";stand left 1 |abcdefghi", HEAD + ";stand left 1 a |b",
            HEAD + ";plan|", HEAD + ";plan 1|", HEAD + ";plan |a", HEAD + ";plan 1 |a",
            HEAD + ";bearer |A 1 1", HEAD + ";bearer a |-1 1", HEAD + ";bearer a 1|\t1",
            HEAD + ";bearer a |00001 1", HEAD + ";bearer a |99999 1", HEAD + "|,", "|Parade",
            HEAD + ";stand left |10000 a", HEAD + ";|abcdefghijklmnop", HEAD + ";|bearera 1 1",
            "|xarade 1 0 1 0 1 0", HEAD + ";|xearer a 1 1", HEAD + ";|bearet a 1 1",
            HEAD + ";stand |xeft 1 a", HEAD + ";|xlan 1 0", HEAD + "|:", HEAD + "|/",
            HEAD + ";bearer |` 1 1", HEAD + ";bearer |{ 1 1", HEAD + ";bearer a |: 1",
            HEAD + ";bearer a |/ 1",
        };
        for (String text : marked) {
            error(text, 1);
        }
    }

    private static void bounds() {
        CHECK.about("section 6, code 2");
        String[] marked = {
            "parade |0 0 1 0 1 0", "parade |1000 0 1 0 1 0", "parade 1 0 |0 0 1 0",
            "parade 1 0 1 |51 1 0", "parade 1 0 1 0 |0 0", "parade 1 0 1 0 |101 0",
            "parade |0", "parade 1 9999 9999 50 100 9999;bearer a |0 0",
            HEAD + ";bearer a |201 0", HEAD + ";bearer a 200 |21", HEAD + ";bearer a |0",
            HEAD + ";plan |0 0", HEAD + ";plan |5001 0", HEAD + ";plan 1 |0",
            HEAD + ";bearer a 1 1;plan 1 |0", HEAD + ";bearer a 1 1;bearer b 1 1;plan 1 |1",
            HEAD + ";bearer a 1 1;plan 1 |0;bearer b 1 1",
            HEAD + ";bearer a 1 1;bearer b 1 1;plan 5000 |9999",
        };
        for (String text : marked) {
            error(text, 2);
        }
        String row = HEAD + ";bearer a 1 0;bearer b 200 20;bearer c 1 1";
        fine(row + ";plan 1 0;plan 5000 1;stand left 0 a;stand right 9999 abcdefgh", 3);
        fine(HEAD + ";bearer a 1 1;bearer b 1 1;plan 1 0;bearer c 1 1;plan 1 1", 3);
    }

    private static void tooMany() {
        CHECK.about("section 6, code 4");
        StringBuilder text = new StringBuilder(HEAD);
        text.append(";bearer a 1 1".repeat(12));
        fine(text.toString(), 12);
        error(text + ";|bearer", 4);
        error(text + ";|bearer 7", 4);
        text.append(";stand left 1 a".repeat(6));
        fine(text.toString(), 12);
        error(text + "; |stand", 4);
        text.append(";plan 1 10".repeat(12));
        fine(text.toString(), 12);
        error(text + ";|plan 0", 4);
        error(text + ";|plans", 1);
    }

    private static void tokens() {
        CHECK.about("section 6, tokens");
        fine("  parade1 0 1 0 1 0;bearer a1 0", 1);
        fine("parade 0001 0000 01 00 1 0  ;  bearer   x 0200 020 ; stand left0abcdefgh  ", 1);
        fine(HEAD + ";stand right 7 right;stand left 8 left", 0);
        error("parade 1 0 1 0 1 0|a", 1);
        error("parade 1 0 1 0 1|", 1);
        BannerParade x = Check.loaded("parade 0007 0 1 0 1 0;bearer a 010 0");
        CHECK.is(x.setting(0), 7, "leading zeros");
        CHECK.is(x.bearer(0, 2), 10, "leading zeros");
        BannerParade y = new BannerParade();
        Check.fill(y, "parade 1 0 1 0 1 0;bearer a 123 4");
        CHECK.fails(Check.ARGUMENT, "load cuts a token", () -> y.load(23));
        CHECK.is(y.errorPosition(), 19, "the cut token");
        BannerParade z = new BannerParade();
        Check.fill(z, HEAD + ";bearer a 123 19");
        CHECK.is(z.load(HEAD.length() + 15), 1, "load cuts a number");
        CHECK.is(z.bearer(0, 3), 1, "the number that is left");
        Check.fill(z, HEAD + ";stand left 0 abcdef");
        CHECK.is(z.load(HEAD.length() + 17), 0, "load cuts a word");
        CHECK.is(z.stand(0, 2), 3, "the word that is left");
        Check.fill(z, "   ");
        CHECK.fails(Check.ARGUMENT, "load(0)", () -> z.load(0));
        CHECK.is(z.errorPosition(), 0, "load(0) of blanks");
    }

    private static void parseErrorAndPosition() {
        CHECK.about("promises 4 and 5");
        BannerParade x = new BannerParade();
        Check.fill(x, "parade 0");
        CHECK.fails(Check.INDEX, "load(21)", () -> x.load(21));
        CHECK.is(x.parseError(), 0, "parseError() without a parse");
        CHECK.is(x.errorPosition(), -1, "errorPosition() without a parse");
        CHECK.is(x.buffered(), 20, "the buffer stays");
        CHECK.fails(Check.ARGUMENT, "load(8)", () -> x.load(8));
        CHECK.is(x.parseError(), 2, "parseError()");
        CHECK.is(x.errorPosition(), 7, "errorPosition()");
        CHECK.fails(Check.INDEX, "load(1)", () -> x.load(1));
        CHECK.fails(Check.INDEX, "load(-1)", () -> x.load(-1));
        CHECK.is(x.parseError(), 2, "parseError() stays");
        CHECK.is(x.errorPosition(), 7, "errorPosition() stays");
        Check.load(x, HEAD);
        CHECK.is(x.parseError(), 0, "parseError() behind a success");
        CHECK.is(x.errorPosition(), -1, "errorPosition() behind a success");
    }

    private static void buffered() {
        CHECK.about("promise 6");
        BannerParade x = new BannerParade();
        x.append(0, 0, 0, 0, 0);
        CHECK.is(x.buffered(), 20, "buffered()");
        CHECK.fails(Check.ARGUMENT, "load(20)", () -> x.load(20));
        CHECK.is(x.buffered(), 0, "buffered() behind an error");
        Check.fill(x, HEAD + ";bearer a 1 1");
        CHECK.is(x.buffered(), 40, "buffered()");
        x.load(24);
        CHECK.is(x.buffered(), 0, "buffered() behind a success");
        CHECK.is(x.count(0), 0, "the rest is gone");
    }
}

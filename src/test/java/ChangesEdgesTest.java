import java.util.LinkedHashMap;
import java.util.Map;
import java.util.function.Consumer;

/** The boundary cases of promises 49 to 65 and of section 7 of "Terms". */
public final class ChangesEdgesTest {
    private static final Check CHECK = new Check();
    private static final int SPACE = 0;
    private static final int NEAR = 5;
    /** The places are 0, -10, -20 and so on; REACH is 200, WIDE is 10, REST is 0, LIFT is 100. */
    private static final String HEAD = "parade 10 200 10 0 100 10";
    private static final String ABC = HEAD + ";bearer a 1 0;bearer b 1 0;bearer c 1 0";

    public static void main(String[] args) {
        writeStand();
        writeRow();
        writePlaces();
        placesOfEachLength();
        textStays();
        tickRange();
        tickUpTo5000();
        tickWords();
        swap();
        drop();
        pick();
        strengthen();
        rest();
        setStep();
        addPlan();
        set();
        undoUpTo8();
        undoOfUndone();
        changesThatChangeNothing();
        undoOfEach();
        undoBehindLoadAndRestore();
        saveAndRestore();
        savedIsACopy();
        CHECK.end();
    }

    private static BannerParade loaded(String text) {
        return Check.loaded(text);
    }

    private static void text(BannerParade x, int length, String want) {
        CHECK.is(length, want.length(), "the length of " + want);
        CHECK.is(Check.written(x, length), want, "the text");
        CHECK.fails(Check.INDEX, "the byte behind " + want, () -> x.textByte(length));
        CHECK.fails(Check.INDEX, "the byte ahead of " + want, () -> x.textByte(-1));
    }

    // ---- promises 49 to 52

    private static void writeStand() {
        CHECK.about("promise 49: the text that a stand reads now");
        BannerParade x = loaded(ABC + ";stand left 0 a;stand right 0 a;stand left 201 a");
        text(x, x.writeStand(0), "abc");
        text(x, x.writeStand(2), "");
        text(x, x.writeStand(1), "cba");
        x.set(2, 9);
        text(x, x.writeStand(0), "a b c");
        x.drop(0);
        x.drop(1);
        x.drop(2);
        text(x, x.writeStand(0), "");
        BannerParade y = loaded(HEAD + ";bearer z 1 0".repeat(12) + ";stand left 0 z");
        text(y, y.writeStand(0), "z".repeat(12));
        y.set(2, 1);
        text(y, y.writeStand(0), "z" + " z".repeat(11));
        BannerParade z = loaded(HEAD + ";stand left 0 a");
        text(z, z.writeStand(0), "");
    }

    private static void writeRow() {
        CHECK.about("promise 50: the letter, or a minus sign (byte 45) if it carries none");
        BannerParade x = loaded(HEAD + ";bearer a 1 0;bearer z 1 0;bearer m 1 0");
        text(x, x.writeRow(), "azm");
        x.drop(0);
        text(x, x.writeRow(), "-zm");
        CHECK.is(x.textByte(0), 45, "the minus sign");
        x.drop(2);
        text(x, x.writeRow(), "-z-");
        x.drop(1);
        text(x, x.writeRow(), "---");
        BannerParade y = loaded(HEAD);
        text(y, y.writeRow(), "");
        BannerParade z = loaded(HEAD + ";bearer z 1 0".repeat(12));
        text(z, z.writeRow(), "z".repeat(12));
        z.drop(11);
        text(z, z.writeRow(), "z".repeat(11) + "-");
    }

    private static void writePlaces() {
        CHECK.about("promise 51: a minus sign if it is less than 0, a comma between two");
        BannerParade none = loaded(HEAD);
        text(none, none.writePlaces(), "");
        BannerParade one = loaded(HEAD + ";bearer a 200 0");
        text(one, one.writePlaces(), "0");
        one.tick(1);
        text(one, one.writePlaces(), "200");
        BannerParade x = loaded("parade 1 0 1 0 1 0;bearer a 1 0;bearer b 1 0;bearer c 1 0");
        text(x, x.writePlaces(), "0,-1,-2");
        x.tick(1);
        text(x, x.writePlaces(), "1,0,-1");
        x.tick(1);
        text(x, x.writePlaces(), "2,1,0");
        BannerParade y = loaded("parade 999 0 1 0 1 0" + ";bearer a 200 0".repeat(12));
        text(y, y.writePlaces(), "0,-999,-1998,-2997,-3996,-4995,-5994,-6993,-7992,-8991,-9990"
                + ",-10989");
        for (int k = 0; k < 50; k++) {
            y.tick(100);
        }
        text(y, y.writePlaces(), "1000000,999001,998002,997003,996004,995005,994006,993007,992008"
                + ",991009,990010,989011");
    }

    private static void placesOfEachLength() {
        CHECK.about("promise 51: each without leading zeros");
        BannerParade x = loaded("parade 10 0 1 0 1 0;bearer a 9 0");
        int[] steps = {9, 1, 89, 1, 100, 100, 199, 200, 200, 101};
        int place = 0;
        for (int step : steps) {
            x.setStep(0, step);
            x.tick(1);
            place += step;
            text(x, x.writePlaces(), "" + place);
        }
        CHECK.is(place, 1000, "the greatest place");
        x.setStep(0, 200);
        for (int k = 0; k < 5; k++) {
            x.tick(9);
            text(x, x.writePlaces(), "" + (1000 + 1800 * (k + 1)));
        }
        BannerParade y = loaded("parade 99 0 1 0 1 0;bearer a 1 0;bearer b 1 0;bearer c 1 0");
        for (int k = 0; k < 3; k++) {
            String places = k + "," + (k - 99) + "," + (k - 198);
            text(y, y.writePlaces(), places);
            y.tick(1);
        }
        BannerParade z = loaded("parade 10 0 1 0 1 0;bearer a 1 0;bearer b 1 0");
        z.tick(1);
        text(z, z.writePlaces(), "1,-9");
    }

    private static void textStays() {
        CHECK.about("promise 52 and section 7: the text stays until the next text");
        BannerParade x = loaded(ABC + ";stand left 0 abc;stand left 201 a");
        CHECK.fails(Check.INDEX, "before the first text", () -> x.textByte(0));
        x.writeRow();
        Map<String, Runnable> calls = new LinkedHashMap<>();
        calls.put("tick", () -> x.tick(2));
        calls.put("drop", () -> x.drop(0));
        calls.put("undo", () -> x.undo());
        calls.put("save", () -> x.save(0));
        calls.put("swap", () -> x.swap(1));
        calls.put("restore", () -> x.restore(0));
        calls.put("readsIn", () -> x.readsIn(0));
        calls.put("readByte", () -> x.readByte(0, 0));
        calls.put("load", () -> Check.load(x, HEAD + ";stand left 0 a"));
        calls.put("a load that fails", () -> CHECK.fails(Check.ARGUMENT, "", () -> x.load(0)));
        calls.put("writeStand of none", () -> CHECK.fails(Check.INDEX, "", () -> x.writeStand(1)));
        calls.forEach((name, call) -> {
            call.run();
            CHECK.is(Check.written(x, 3), "abc", "the text behind " + name);
            CHECK.fails(Check.INDEX, "textByte(3) behind " + name, () -> x.textByte(3));
        });
        text(x, x.writeStand(0), "");
        CHECK.fails(Check.INDEX, "textByte(0) of an empty text", () -> x.textByte(0));
    }

    // ---- promise 53

    private static void tickRange() {
        CHECK.about("promise 53: 1 to 100");
        BannerParade x = loaded(HEAD + ";bearer a 1 0");
        x.tick(1);
        CHECK.is(x.count(3) * 1000 + x.bearer(0, 1), 1001, "1");
        x.tick(100);
        CHECK.is(x.count(3) * 1000 + x.bearer(0, 1), 101101, "100 more");
        for (int ticks : new int[] {Integer.MIN_VALUE, -100, -1, 0, 101, 5000, Integer.MAX_VALUE}) {
            CHECK.fails(Check.ARGUMENT, "tick(" + ticks + ")", () -> x.tick(ticks));
        }
        CHECK.is(x.count(3), 101, "the time");
        CHECK.is(x.undo(), 1, "a hundred ticks are one change");
        CHECK.is(x.count(3), 1, "the time");
    }

    private static void tickUpTo5000() {
        CHECK.about("promise 53: the time would be greater than 5000");
        BannerParade x = loaded(HEAD);
        for (int k = 0; k < 49; k++) {
            x.tick(100);
        }
        CHECK.is(x.tick(100), 0, "to 5000");
        x.undo();
        x.tick(1);
        CHECK.fails(Check.ARGUMENT, "tick(100) at 4901", () -> x.tick(100));
        CHECK.is(x.tick(99), 0, "tick(99) at 4901");
        CHECK.fails(Check.ARGUMENT, "tick(1) at 5000", () -> x.tick(1));
        CHECK.is(x.count(3), 5000, "the time");
    }

    private static void tickWords() {
        CHECK.about("promise 53: how many words were read in them for the first time");
        String all = HEAD + ";bearer a 1 0" + ";stand left 0 a".repeat(6);
        CHECK.is(loaded(all).tick(1), 6, "six at once");
        CHECK.is(loaded(all).tick(100), 6, "six, which stay read");
        BannerParade x = loaded("parade 10 0 1 0 1 0;bearer a 1 0;stand left 0 a;stand left 1 a"
                + ";stand left 2 a;stand left 3 a;stand left 2 b");
        CHECK.is(x.tick(1), 1, "1, and not 0, where it was ahead of the tick");
        CHECK.is(x.tick(2), 2, "2 and 3");
        CHECK.is(x.tick(9), 0, "none");
        x.undo();
        x.undo();
        CHECK.is(x.tick(1), 1, "undone and read again");
        CHECK.is(x.readStands(), 2 + 4, "1 and 2");
        CHECK.is(loaded(HEAD + ";stand left 0 a").tick(100), 0, "without bearers");
        CHECK.is(loaded(HEAD + ";bearer a 1 0").tick(100), 0, "without stands");
    }

    // ---- promises 54 to 61

    private static void swap() {
        CHECK.about("promise 54: the letter of the banner that it carries then; 0 if none");
        BannerParade x = loaded(HEAD + ";bearer a 1 0;bearer z 1 0;bearer m 1 0");
        CHECK.is(x.swap(0), 26, "z");
        CHECK.is(x.swap(0), 1, "a");
        x.drop(1);
        CHECK.is(x.swap(0), 0, "none");
        CHECK.fails(Check.ARGUMENT, "the last one", () -> x.swap(2));
        CHECK.is(x.swap(1), 13, "the last but one");
        CHECK.fails(Check.ARGUMENT, "the only one", () -> loaded(HEAD + ";bearer a 1 0").swap(0));
        CHECK.fails(Check.INDEX, "no bearers", () -> loaded(HEAD).swap(0));
    }

    private static void drop() {
        CHECK.about("promise 55: how many banners lie then");
        BannerParade x = loaded(HEAD + ";bearer z 1 0".repeat(12));
        for (int b = 11; b >= 0; b--) {
            CHECK.is(x.drop(b), 12 - b, "drop(" + b + ")");
            int dropped = b;
            CHECK.fails(Check.ARGUMENT, "it carries none", () -> x.drop(dropped));
        }
        CHECK.is(x.lying(11, 1), 0, "the last one lies at 0");
        CHECK.is(x.bearer(0, 4), 100, "it costs no strength");
        x.pick(4);
        CHECK.is(x.drop(4), 12, "again");
    }

    private static void pick() {
        CHECK.about("promise 56: at its place, the one that was dropped first");
        BannerParade x = loaded(HEAD + ";bearer z 1 0;bearer a 1 0;bearer m 1 0");
        x.drop(0);
        x.swap(0);
        x.drop(0);
        x.rest(2);
        CHECK.is(x.pick(0), 26, "z, of z and a at 0");
        CHECK.is(x.lying(0, 0), 1, "a lies");
        CHECK.fails(Check.ARGUMENT, "it carries one", () -> x.pick(0));
        CHECK.fails(Check.ARGUMENT, "none lies at -10", () -> x.pick(1));
        x.drop(0);
        CHECK.is(x.pick(0), 1, "a, which was dropped first now");
        x.drop(0);
        x.strengthen(0, -1);
        CHECK.fails(Check.ARGUMENT, "99 is less than LIFT", () -> x.pick(0));
        x.set(4, 99);
        CHECK.is(x.pick(0), 26, "99 is LIFT");
        CHECK.is(x.bearer(0, 4), 99, "it costs no strength");
        BannerParade y = loaded("parade 1 0 1 0 100 1;bearer a 1 0;bearer b 1 0;bearer c 1 0");
        y.drop(1);
        y.swap(0);
        y.drop(2);
        y.rest(2);
        CHECK.fails(Check.ARGUMENT, "b lies 1 behind", () -> y.pick(0));
        y.drop(1);
        CHECK.is(y.pick(2), 3, "c lies at -2");
        CHECK.is(y.pick(1), 2, "b lies at -1, and a");
        CHECK.is(y.lying(0, 0), 1, "a lies");
    }

    private static void strengthen() {
        CHECK.about("promise 57: not less than 0 and not greater than 100; -100 to 100");
        int[][] cases = {{100, -100, 0}, {100, -99, 1}, {99, -100, 0}, {0, -1, 0}, {1, -1, 0},
            {0, 0, 0}, {0, 100, 100}, {0, 99, 99}, {1, 100, 100}, {99, 1, 100}, {100, 1, 100},
            {100, 0, 100}, {98, 1, 99}, {50, 50, 100}, {50, 51, 100}, {50, -50, 0}, {50, -51, 0}};
        for (int[] it : cases) {
            BannerParade x = loaded(ABC);
            x.strengthen(1, it[0] - 100);
            CHECK.is(x.strengthen(1, it[1]), it[2], it[0] + " and " + it[1]);
            CHECK.is(x.bearer(1, 4), it[2], it[0] + " and " + it[1]);
            CHECK.is(x.bearer(0, 4) + x.bearer(2, 4), 200, "the others");
            CHECK.is(x.bearer(1, 0), 2, "its banner");
        }
    }

    private static void rest() {
        CHECK.about("promise 58: not greater than 100; 1 to 100; the sum of their strength");
        BannerParade x = loaded(HEAD + ";bearer a 1 0".repeat(12));
        CHECK.is(x.rest(1), 1200, "all have 100");
        for (int b = 0; b < 12; b++) {
            x.strengthen(b, -100);
        }
        CHECK.is(x.rest(1), 12, "rest(1)");
        CHECK.is(x.rest(98), 1188, "rest(98)");
        x.strengthen(0, -1);
        CHECK.is(x.rest(1), 1199, "98 and one more, 99 and one more");
        CHECK.is(x.rest(100), 1200, "rest(100)");
        CHECK.is(loaded(HEAD).rest(100), 0, "without bearers");
        BannerParade y = loaded(ABC);
        y.strengthen(0, -100);
        CHECK.is(y.rest(100), 300, "0 and 100 more");
    }

    private static void setStep() {
        CHECK.about("promise 59: the previous STEP; 1 to 200");
        BannerParade x = loaded(ABC);
        CHECK.is(x.setStep(2, 200), 1, "to 200");
        CHECK.is(x.setStep(2, 1), 200, "to 1");
        CHECK.is(x.setStep(2, 1), 1, "to the same");
        CHECK.is(x.bearer(2, 2) * 10 + x.bearer(1, 2), 11, "STEP");
    }

    private static void addPlan() {
        CHECK.about("promise 60: greater than the time now, at most 5000; behind all others");
        BannerParade x = loaded(ABC + ";plan 9 0");
        CHECK.fails(Check.ARGUMENT, "0 at 0", () -> x.addPlan(0, 0));
        CHECK.is(x.addPlan(1, 0), 1, "1 at 0");
        CHECK.is(x.addPlan(5000, 1), 2, "5000 at 0");
        CHECK.fails(Check.ARGUMENT, "5001 at 0", () -> x.addPlan(5001, 0));
        x.tick(1);
        CHECK.is(x.plan(1, 2) * 10 + x.plan(0, 2), 10, "1 was done");
        CHECK.fails(Check.ARGUMENT, "1 at 1", () -> x.addPlan(1, 0));
        CHECK.is(x.addPlan(2, 0), 3, "2 at 1");
        CHECK.is(x.plan(3, 3), 1, "in 1");
        x.tick(1);
        CHECK.is(x.plan(3, 2), 1, "2 was done");
        CHECK.about("promise 60: there are 12 plans");
        BannerParade y = loaded(ABC + ";plan 9 0".repeat(11));
        CHECK.is(y.addPlan(3, 1), 11, "the 12th one");
        CHECK.fails(Check.ARGUMENT, "the 13th one", () -> y.addPlan(3, 1));
        CHECK.is(y.undo(), 0, "undo");
        CHECK.is(y.addPlan(4, 0), 11, "the 12th one again");
        CHECK.is(y.plan(11, 0) * 10 + y.plan(11, 1), 40, "its numbers");
        CHECK.about("promise 60: b is the last bearer");
        CHECK.fails(Check.ARGUMENT, "the last one", () -> x.addPlan(9, 2));
        CHECK.is(x.addPlan(9, 1), 4, "the last but one");
        CHECK.fails(Check.INDEX, "no bearer", () -> x.addPlan(9, 3));
        CHECK.fails(Check.INDEX, "no bearers", () -> loaded(HEAD).addPlan(9, 0));
    }

    private static void set() {
        CHECK.about("promise 61: the previous value; within its bounds");
        int[] least = {1, 0, 1, 0, 1, 0};
        int[] greatest = {999, 9999, 9999, 50, 100, 9999};
        BannerParade x = loaded("parade 3 3 3 3 3 3;bearer a 1 0;bearer b 1 0");
        for (int what = 0; what < 6; what++) {
            CHECK.is(x.set(what, least[what]), 3, "the least one");
            CHECK.is(x.set(what, greatest[what]), least[what], "the greatest one");
            CHECK.is(x.set(what, greatest[what]), greatest[what], "the same");
            for (int other = 0; other < 6; other++) {
                CHECK.is(x.setting(other), other <= what ? greatest[other] : 3, "setting " + other);
            }
        }
        CHECK.is(x.bearer(1, 1), -3, "SPACE moves none");
        x.undo();
        CHECK.is(x.set(NEAR, 2), 9999, "undone to the same");
        CHECK.is(x.swappers(), 0, "NEAR is asked anew");
        CHECK.is(x.set(SPACE, 2), 999, "SPACE");
        x.tick(1);
        CHECK.is(x.bearer(1, 1), -2, "SPACE is asked anew");
    }

    // ---- promises 62 to 65

    private static void undoUpTo8() {
        CHECK.about("promises 62 and 63: only the latest 8 changes, 0 to 8");
        for (int changes = 0; changes <= 20; changes++) {
            BannerParade x = loaded(ABC);
            for (int k = 1; k <= changes; k++) {
                x.setStep(0, 1 + k);
                CHECK.is(x.undoable(), Math.min(8, k), "undoable() behind " + k);
            }
            int kept = Math.min(8, changes);
            for (int k = 1; k <= kept; k++) {
                CHECK.is(x.undo(), kept - k, "undo() " + k + " of " + changes);
                CHECK.is(x.undoable(), kept - k, "undoable()");
                CHECK.is(x.bearer(0, 2), 1 + changes - k, "STEP behind undo " + k);
            }
            CHECK.fails(Check.STATE, "undo() of none", x::undo);
            CHECK.is(x.bearer(0, 2), 1 + changes - kept, "STEP stays");
        }
        CHECK.is(new BannerParade().undoable(), 0, "undoable() on a new object");
    }

    private static void undoOfUndone() {
        CHECK.about("promise 62: the latest change that was not undone yet");
        BannerParade x = loaded(ABC);
        x.setStep(0, 2);
        x.setStep(0, 3);
        CHECK.is(x.undo(), 1, "undo()");
        x.setStep(0, 4);
        CHECK.is(x.undo(), 1, "undo() of 4");
        CHECK.is(x.bearer(0, 2), 2, "3 was undone already");
        CHECK.is(x.undo(), 0, "undo() of 2");
        CHECK.is(x.bearer(0, 2), 1, "the first one");
        BannerParade y = loaded(ABC);
        for (int round = 0; round < 5; round++) {
            for (int k = 0; k < 9; k++) {
                y.setStep(0, 10 * round + k + 1);
            }
            for (int k = 7; k >= 0; k--) {
                CHECK.is(y.undo(), k, "undo()");
                CHECK.is(y.bearer(0, 2), 10 * round + k + 1, "STEP in round " + round);
            }
            CHECK.fails(Check.STATE, "undo() of none", y::undo);
        }
    }

    /** Each method that is documented as a change, called so that all else stays as it is. */
    private static Map<String, Consumer<BannerParade>> idle() {
        Map<String, Consumer<BannerParade>> changes = new LinkedHashMap<>();
        changes.put("strengthen by 0", x -> x.strengthen(1, 0));
        changes.put("strengthen at 100", x -> x.strengthen(0, 9));
        changes.put("strengthen at 0", x -> x.strengthen(2, -9));
        changes.put("rest", x -> x.rest(1));
        changes.put("setStep", x -> x.setStep(1, 1));
        changes.put("set", x -> x.set(1, 200));
        return changes;
    }

    private static void changesThatChangeNothing() {
        CHECK.about("section 7: a change, even if nothing is different then");
        idle().forEach((name, change) -> {
            BannerParade x = loaded(ABC);
            if (name.endsWith("at 0")) {
                x.strengthen(2, -100);
            }
            int before = x.undoable();
            String state = Whole.state(x);
            change.accept(x);
            CHECK.is(Whole.state(x), state, name + " changes nothing");
            CHECK.is(x.undoable(), before + 1, name + " can be undone");
            CHECK.is(x.undo(), before, name + " is undone");
            CHECK.is(Whole.state(x), state, name + " is undone");
        });
        BannerParade y = loaded(HEAD);
        y.tick(1);
        y.rest(1);
        CHECK.is(y.undoable(), 2, "without bearers");
        y.save(0);
        y.writeRow();
        y.leastRest();
        CHECK.is(y.undoable(), 2, "save and all that asks are no changes");
    }

    /** With c that lies since 0 and b since 1, and 6 changes that can be undone. */
    private static BannerParade ready() {
        BannerParade x = loaded("parade 10 200 10 0 100 99;bearer a 9 20;bearer b 1 20;bearer c 1 9"
                + ";stand left 0 ab;stand left 9 abc;plan 2 0;plan 9 1");
        x.strengthen(1, -1);
        x.strengthen(2, -1);
        x.drop(2);
        x.tick(1);
        x.drop(1);
        x.set(4, 50);
        return x;
    }

    private static void undoOfEach() {
        CHECK.about("promise 62: all of the state");
        Map<String, Consumer<BannerParade>> changes = new LinkedHashMap<>();
        changes.put("tick(1)", x -> x.tick(1));
        changes.put("tick(100)", x -> x.tick(100));
        changes.put("swap", x -> x.swap(0));
        changes.put("drop", x -> x.drop(0));
        changes.put("pick", x -> x.pick(1));
        changes.put("pick of the first one", x -> x.pick(2));
        changes.put("strengthen", x -> x.strengthen(0, -100));
        changes.put("rest", x -> x.rest(1));
        changes.put("setStep", x -> x.setStep(2, 200));
        changes.put("addPlan", x -> x.addPlan(5000, 1));
        for (int what = 0; what < 6; what++) {
            int k = what;
            changes.put("set " + what, x -> x.set(k, 33));
        }
        changes.forEach((name, change) -> {
            BannerParade x = ready();
            String state = Whole.state(x);
            change.accept(x);
            CHECK.is(Whole.state(x).equals(state), false, name + " changes something");
            CHECK.is(x.undoable(), 7, name + " can be undone");
            CHECK.is(x.undo(), 6, name + " is undone");
            CHECK.is(Whole.state(x), state, name + " is undone");
            CHECK.is(Whole.used(x), Whole.used(ready()), name + " leaves nothing");
        });
    }

    private static void undoBehindLoadAndRestore() {
        CHECK.about("section 7: since the last successful call of load or restore");
        BannerParade x = ready();
        Check.fill(x, HEAD + "!");
        CHECK.fails(Check.ARGUMENT, "load", () -> x.load(HEAD.length() + 1));
        CHECK.is(x.undoable(), 6, "behind a load that failed");
        CHECK.fails(Check.INDEX, "load", () -> x.load(1));
        CHECK.is(x.undoable(), 6, "behind a load of too many bytes");
        CHECK.fails(Check.STATE, "restore(0)", () -> x.restore(0));
        CHECK.fails(Check.INDEX, "restore(2)", () -> x.restore(2));
        CHECK.is(x.undoable(), 6, "behind a restore that failed");
        x.save(0);
        CHECK.is(x.undoable(), 6, "behind save");
        x.restore(0);
        CHECK.is(x.undoable(), 0, "behind restore");
        CHECK.fails(Check.STATE, "undo()", x::undo);
        x.setStep(0, 77);
        CHECK.is(x.undo(), 0, "a change behind restore");
        x.setStep(0, 78);
        Check.load(x, HEAD);
        CHECK.is(x.undoable(), 0, "behind load");
        CHECK.fails(Check.STATE, "undo()", x::undo);
    }

    private static void saveAndRestore() {
        CHECK.about("promises 64 and 65: slot 0 or 1, the time, in place of what was saved there");
        BannerParade x = loaded(ABC + ";stand left 0 ab");
        CHECK.is(x.save(0), 0, "save(0)");
        String first = Whole.state(x);
        x.tick(7);
        x.drop(1);
        CHECK.is(x.save(1), 7, "save(1)");
        String second = Whole.state(x);
        x.tick(2);
        x.swap(0);
        CHECK.is(x.restore(0), 0, "restore(0)");
        CHECK.is(Whole.state(x), first, "the first state");
        CHECK.is(x.undoable(), 0, "nothing can be undone");
        CHECK.is(x.restore(1), 7, "restore(1)");
        CHECK.is(Whole.state(x), second, "the second state");
        CHECK.is(x.restore(1), 7, "it stays saved");
        x.tick(1);
        CHECK.is(x.save(1), 8, "save(1) in place of it");
        String third = Whole.state(x);
        CHECK.is(x.restore(0), 0, "the other slot stays");
        CHECK.is(Whole.state(x), first, "the first state");
        CHECK.is(x.restore(1), 8, "the new one");
        CHECK.is(Whole.state(x), third, "the third state");
        x.undoable();
        x.restore(0);
        for (int k = 0; k < 50; k++) {
            x.tick(100);
        }
        CHECK.is(x.save(0), 5000, "the greatest time");
        x.restore(1);
        CHECK.is(x.restore(0), 5000, "the greatest time");
    }

    private static void savedIsACopy() {
        CHECK.about("promise 65: what was saved, whatever came behind it");
        BannerParade x = ready();
        x.save(0);
        x.save(1);
        String state = Whole.state(x);
        x.tick(9);
        x.undo();
        x.undo();
        x.undo();
        x.restore(0);
        CHECK.is(Whole.state(x), state, "behind changes and undo");
        x.tick(20);
        x.set(0, 99);
        x.addPlan(99, 1);
        x.restore(0);
        CHECK.is(Whole.state(x), state, "behind changes of what was restored");
        CHECK.fails(Check.ARGUMENT, "load(0)", () -> x.load(0));
        x.restore(1);
        CHECK.is(Whole.state(x), state, "behind a load that failed");
        Check.load(x, ABC);
        CHECK.fails(Check.STATE, "restore(0) behind load", () -> x.restore(0));
        CHECK.fails(Check.STATE, "restore(1) behind load", () -> x.restore(1));
    }
}

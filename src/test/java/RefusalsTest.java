import java.util.ArrayList;
import java.util.LinkedHashMap;
import java.util.List;
import java.util.Map;
import java.util.function.BiFunction;
import java.util.function.Function;
import java.util.function.IntBinaryOperator;
import java.util.function.Supplier;

/**
 * Each call that the document refuses: with the exception that it names, the one that it lists
 * first if several are due, and with nothing changed behind it. Of what is out of range it takes
 * the first values on both sides and the least and the greatest int; that the last values within
 * are answered is asked, too.
 */
public final class RefusalsTest {
    private static final Check CHECK = new Check();
    private static final int LEAST = Integer.MIN_VALUE;
    private static final int MOST = Integer.MAX_VALUE;
    /** The other argument where there is none. */
    private static final int[] NO_OTHER = {0};

    public static void main(String[] args) {
        withoutText();
        undoAndRestoreOfNothing();
        noSuchBearer();
        noSuchStand();
        noSuchPlanOrBanner();
        noSuchByte();
        noSuchSlot();
        outOfRange();
        secondArgumentOutOfRange();
        notThen();
        plansRefused();
        settingsRefused();
        loadRefused();
        CHECK.end();
    }

    // ---- what the calls are made on; no object sees more than 512 of them

    /** Never loaded, with bytes in the buffer and the error of a load that failed. */
    private static BannerParade unloaded() {
        BannerParade x = new BannerParade();
        failedLoad(x);
        Check.fill(x, "parade 1 0 1 0 1 0;bearer z 3 4");
        return x;
    }

    private static void failedLoad(BannerParade x) {
        Check.fill(x, "parade 0");
        CHECK.fails(Check.ARGUMENT, "load of a SPACE of 0", () -> x.load(8));
    }

    /** With 3 bearers, 2 stands, 2 plans, a banner that lies, and something of all else. */
    private static BannerParade busy() {
        BannerParade x = Check.loaded("parade 50 30 40 5 20 61;bearer a 40 10;bearer b 30 5"
                + ";bearer c 20 0;stand left 0 c;stand right 9 b;plan 4 0;plan 1 1");
        x.tick(1);
        x.save(0);
        x.drop(2);
        x.save(1);
        x.strengthen(0, -30);
        x.setStep(1, 9);
        x.writePlaces();
        failedLoad(x);
        Check.fill(x, "parade 1 0 1 0 1 0;bearer z 3 4");
        return x;
    }

    /** Without bearers, stands and plans. */
    private static BannerParade empty() {
        BannerParade x = Check.loaded("parade 1 2 3 4 5 6");
        x.rest(1);
        x.save(1);
        x.writeRow();
        return x;
    }

    /** As busy, but with the greatest time; and one change alone can be undone. */
    private static BannerParade old() {
        BannerParade x = busy();
        for (int k = 0; k < 49; k++) {
            x.tick(100);
        }
        x.save(1);
        x.restore(1);
        x.tick(99);
        return x;
    }

    private static void keeps(String what, Function<BannerParade, Object> call) {
        CHECK.keepsAll(what, RefusalsTest::busy, call);
    }

    private static void argument(String what, Function<BannerParade, Object> call) {
        CHECK.refuses(Check.ARGUMENT, what, RefusalsTest::busy, call);
    }

    private static void index(String what, Function<BannerParade, Object> call) {
        CHECK.refuses(Check.INDEX, what, RefusalsTest::busy, call);
    }

    // ---- IllegalStateException

    /** Every call that is refused if no text was loaded; u and v are its arguments. */
    private static Map<String, Function<BannerParade, IntBinaryOperator>> allButInput() {
        Map<String, Function<BannerParade, IntBinaryOperator>> calls = new LinkedHashMap<>();
        calls.put("count", x -> (u, v) -> x.count(u));
        calls.put("setting", x -> (u, v) -> x.setting(u));
        calls.put("bearer", x -> x::bearer);
        calls.put("stand", x -> x::stand);
        calls.put("plan", x -> x::plan);
        calls.put("lying", x -> x::lying);
        calls.put("wordByte", x -> x::wordByte);
        calls.put("readByte", x -> x::readByte);
        calls.put("seen", x -> (u, v) -> x.seen(u));
        calls.put("matches", x -> (u, v) -> x.matches(u));
        calls.put("isRead", x -> (u, v) -> x.isRead(u) ? 1 : 0);
        calls.put("share", x -> (u, v) -> (int) x.share(u));
        calls.put("shareBits", x -> (u, v) -> x.shareBits(u));
        calls.put("missing", x -> (u, v) -> x.missing(u));
        calls.put("seenAt", x -> x::seenAt);
        calls.put("blanks", x -> (u, v) -> x.blanks(u));
        calls.put("prefix", x -> (u, v) -> x.prefix(u));
        calls.put("holder", x -> (u, v) -> x.holder(u));
        calls.put("copies", x -> (u, v) -> x.copies(u));
        calls.put("tired", x -> (u, v) -> x.tired(u));
        calls.put("swappers", x -> (u, v) -> x.swappers());
        calls.put("nextPlan", x -> (u, v) -> x.nextPlan());
        calls.put("lyingFrom", x -> x::lyingFrom);
        calls.put("bestStand", x -> (u, v) -> x.bestStand());
        calls.put("readStands", x -> (u, v) -> x.readStands());
        calls.put("weakest", x -> (u, v) -> x.weakest());
        calls.put("widest", x -> (u, v) -> x.widest());
        calls.put("stretch", x -> (u, v) -> x.stretch());
        calls.put("meanStrength", x -> (u, v) -> (int) x.meanStrength());
        calls.put("strengthBits", x -> (u, v) -> (int) x.strengthBits());
        putForecasts(calls);
        putChanges(calls);
        return calls;
    }

    private static void putForecasts(Map<String, Function<BannerParade, IntBinaryOperator>> calls) {
        calls.put("readsIn", x -> (u, v) -> x.readsIn(u));
        calls.put("passedIn", x -> (u, v) -> x.passedIn(u));
        calls.put("placeIn", x -> x::placeIn);
        calls.put("strengthIn", x -> x::strengthIn);
        calls.put("bannerIn", x -> x::bannerIn);
        calls.put("dropsIn", x -> (u, v) -> x.dropsIn(u));
        calls.put("firstDrop", x -> (u, v) -> x.firstDrop());
        calls.put("shareIn", x -> (u, v) -> (int) x.shareIn(u, v));
        calls.put("bestShare", x -> (u, v) -> (int) x.bestShare(u, v));
        calls.put("bestSwap", x -> (u, v) -> x.bestSwap(u));
        calls.put("closedIn", x -> (u, v) -> x.closedIn(u));
        calls.put("leastRest", x -> (u, v) -> x.leastRest());
    }

    private static void putChanges(Map<String, Function<BannerParade, IntBinaryOperator>> calls) {
        calls.put("writeStand", x -> (u, v) -> x.writeStand(u));
        calls.put("writeRow", x -> (u, v) -> x.writeRow());
        calls.put("writePlaces", x -> (u, v) -> x.writePlaces());
        calls.put("tick", x -> (u, v) -> x.tick(u));
        calls.put("swap", x -> (u, v) -> x.swap(u));
        calls.put("drop", x -> (u, v) -> x.drop(u));
        calls.put("pick", x -> (u, v) -> x.pick(u));
        calls.put("strengthen", x -> x::strengthen);
        calls.put("rest", x -> (u, v) -> x.rest(u));
        calls.put("setStep", x -> x::setStep);
        calls.put("addPlan", x -> x::addPlan);
        calls.put("set", x -> x::set);
        calls.put("save", x -> (u, v) -> x.save(u));
    }

    private static void withoutText() {
        CHECK.about("IllegalStateException if no text was loaded, ahead of all others");
        int[] values = {LEAST, -1, 0, 1, 2, 400, MOST};
        allButInput().forEach((name, call) -> {
            CHECK.refuses(Check.STATE, name + " on a new object", BannerParade::new,
                    x -> call.apply(x).applyAsInt(0, 0));
            for (int u : values) {
                for (int v : values) {
                    CHECK.refuses(Check.STATE, name + "(" + u + ", " + v + ") behind a failed load",
                            RefusalsTest::unloaded, x -> call.apply(x).applyAsInt(u, v));
                }
            }
        });
        CHECK.is(allButInput().size(), 55, "all promises but 1 to 6, 52, 62, 63 and 65");
    }

    private static void undoAndRestoreOfNothing() {
        CHECK.about("promise 62: there is none");
        CHECK.refuses(Check.STATE, "undo() on a new object", BannerParade::new, x -> x.undo());
        CHECK.refuses(Check.STATE, "undo() unloaded", RefusalsTest::unloaded, x -> x.undo());
        Supplier<BannerParade> loaded = () -> Check.loaded("parade 1 2 3 4 5 6;bearer a 1 0");
        CHECK.refuses(Check.STATE, "undo() behind load", loaded, x -> x.undo());
        Supplier<BannerParade> restored = () -> {
            BannerParade x = busy();
            x.restore(0);
            return x;
        };
        CHECK.refuses(Check.STATE, "undo() behind restore", restored, x -> x.undo());
        Supplier<BannerParade> undone = () -> {
            BannerParade x = busy();
            for (int k = 3; k >= 0; k--) {
                CHECK.is(x.undo(), k, "undo()");
            }
            return x;
        };
        CHECK.refuses(Check.STATE, "undo() behind all of them", undone, x -> x.undo());
        CHECK.about("promise 65: nothing is saved there");
        for (int slot : new int[] {0, 1}) {
            CHECK.refuses(Check.STATE, "restore(" + slot + ") on a new object", BannerParade::new,
                    x -> x.restore(slot));
            CHECK.refuses(Check.STATE, "restore(" + slot + ") unloaded", RefusalsTest::unloaded,
                    x -> x.restore(slot));
            CHECK.refuses(Check.STATE, "restore(" + slot + ") behind load", loaded,
                    x -> x.restore(slot));
            CHECK.refuses(Check.STATE, "restore(" + slot + ") beside the other slot", () -> {
                BannerParade x = loaded.get();
                x.rest(1);
                x.save(1 - slot);
                return x;
            }, x -> x.restore(slot));
        }
    }

    // ---- IndexOutOfBoundsException

    /** Refused for every index outside of size, whatever the other argument is. */
    private static void outside(String name, int size, Supplier<BannerParade> made, int[] others,
            Function<BannerParade, BiFunction<Integer, Integer, Object>> call) {
        for (int k : new int[] {LEAST, -1, size, size + 1, MOST}) {
            for (int other : others) {
                CHECK.refuses(Check.INDEX, name + " of " + k + " with " + other, made,
                        x -> call.apply(x).apply(k, other));
            }
        }
    }

    private static void noSuchBearer() {
        CHECK.about("IndexOutOfBoundsException if there is no such bearer");
        List<Supplier<BannerParade>> made = new ArrayList<>();
        made.add(RefusalsTest::busy);
        made.add(RefusalsTest::empty);
        for (Supplier<BannerParade> some : made) {
            int size = some.get().count(0);
            int[] ticks = {0, 300, -1, 301, LEAST, MOST};
            outside("bearer", size, some, new int[] {0, 12, -1, 13}, x -> x::bearer);
            outside("placeIn", size, some, ticks, x -> x::placeIn);
            outside("strengthIn", size, some, ticks, x -> x::strengthIn);
            outside("bannerIn", size, some, ticks, x -> x::bannerIn);
            outside("closedIn", size, some, NO_OTHER, x -> (b, v) -> x.closedIn(b));
            outside("swap", size, some, NO_OTHER, x -> (b, v) -> x.swap(b));
            outside("drop", size, some, NO_OTHER, x -> (b, v) -> x.drop(b));
            outside("pick", size, some, NO_OTHER, x -> (b, v) -> x.pick(b));
            outside("strengthen", size, some, new int[] {1, -101, 101}, x -> x::strengthen);
            outside("setStep", size, some, new int[] {1, 0, 201}, x -> x::setStep);
            outside("addPlan", size, some, new int[] {2, 0, 5001}, x -> (b, t) -> x.addPlan(t, b));
        }
        for (int b = 0; b < 3; b++) {
            int there = b;
            keeps("bearer " + b, x -> x.bearer(there, 0));
            keeps("placeIn " + b, x -> x.placeIn(there, 0));
            keeps("strengthIn " + b, x -> x.strengthIn(there, 0));
            keeps("bannerIn " + b, x -> x.bannerIn(there, 0));
            keeps("closedIn " + b, x -> x.closedIn(there));
        }
    }

    private static void noSuchStand() {
        CHECK.about("IndexOutOfBoundsException if there is no such stand");
        Map<String, Function<BannerParade, IntBinaryOperator>> calls = allButInput();
        List<String> names = List.of("stand", "wordByte", "readByte", "seen", "matches", "isRead",
                "share", "shareBits", "missing", "seenAt", "blanks", "prefix", "readsIn",
                "passedIn", "shareIn", "bestShare", "bestSwap", "writeStand");
        for (String name : names) {
            for (Supplier<BannerParade> some : List.<Supplier<BannerParade>>of(RefusalsTest::busy,
                    RefusalsTest::empty)) {
                outside(name, some.get().count(1), some, new int[] {0, -1, 9, 301, MOST},
                        x -> (s, v) -> calls.get(name).apply(x).applyAsInt(s, v));
            }
            if (!name.equals("writeStand")) {
                keeps(name + " of 0", x -> calls.get(name).apply(x).applyAsInt(0, 0));
                keeps(name + " of 1", x -> calls.get(name).apply(x).applyAsInt(1, 0));
            }
        }
    }

    private static void noSuchPlanOrBanner() {
        CHECK.about("promise 11: no such plan");
        int[] whats = {0, 3, -1, 4, MOST};
        outside("plan", 2, RefusalsTest::busy, whats, x -> x::plan);
        outside("plan", 0, RefusalsTest::empty, whats, x -> x::plan);
        keeps("plan(0, 0)", x -> x.plan(0, 0));
        keeps("plan(1, 3)", x -> x.plan(1, 3));
        CHECK.about("promise 12: not so many banners lie");
        whats = new int[] {0, 2, -1, 3, LEAST};
        outside("lying", 1, RefusalsTest::busy, whats, x -> x::lying);
        outside("lying", 0, RefusalsTest::empty, whats, x -> x::lying);
        keeps("lying(0, 0)", x -> x.lying(0, 0));
    }

    private static void noSuchByte() {
        CHECK.about("promise 52: no such byte");
        // the text is 40,-21,-81
        outside("textByte", 10, RefusalsTest::busy, NO_OTHER, x -> (i, v) -> x.textByte(i));
        outside("textByte", 0, RefusalsTest::empty, NO_OTHER, x -> (i, v) -> x.textByte(i));
        outside("textByte", 0, RefusalsTest::unloaded, NO_OTHER, x -> (i, v) -> x.textByte(i));
        outside("textByte", 0, BannerParade::new, NO_OTHER, x -> (i, v) -> x.textByte(i));
        keeps("textByte(0)", x -> x.textByte(0));
        keeps("textByte(9)", x -> x.textByte(9));
    }

    private static void noSuchSlot() {
        CHECK.about("promises 64 and 65: no such slot");
        outside("save", 2, RefusalsTest::busy, NO_OTHER, x -> (slot, v) -> x.save(slot));
        outside("restore", 2, RefusalsTest::busy, NO_OTHER, x -> (slot, v) -> x.restore(slot));
        CHECK.about("promise 65: no such slot, ahead of nothing that is saved there");
        outside("restore", 2, BannerParade::new, NO_OTHER, x -> (slot, v) -> x.restore(slot));
        outside("restore", 2, RefusalsTest::unloaded, NO_OTHER, x -> (slot, v) -> x.restore(slot));
    }

    // ---- IllegalArgumentException

    private static void oneOutOfRange(String name, int least, int greatest,
            Function<BannerParade, Function<Integer, Object>> call) {
        for (int value : new int[] {LEAST, least - 1, greatest + 1, MOST}) {
            argument(name + "(" + value + ")", x -> call.apply(x).apply(value));
            CHECK.refuses(Check.ARGUMENT, name + "(" + value + ") without bearers",
                    RefusalsTest::empty, x -> call.apply(x).apply(value));
        }
    }

    private static void outOfRange() {
        CHECK.about("IllegalArgumentException, the only argument is out of range");
        oneOutOfRange("count", 0, 16, x -> x::count);
        oneOutOfRange("setting", 0, 5, x -> x::setting);
        oneOutOfRange("holder", 1, 26, x -> x::holder);
        oneOutOfRange("copies", 1, 26, x -> x::copies);
        oneOutOfRange("tired", 0, 100, x -> x::tired);
        oneOutOfRange("dropsIn", 0, 300, x -> x::dropsIn);
        oneOutOfRange("tick", 1, 100, x -> x::tick);
        oneOutOfRange("rest", 1, 100, x -> x::rest);
        CHECK.about("the only argument is just within its range");
        for (int end = 0; end <= 1; end++) {
            int last = end;
            keeps("count", x -> x.count(last * 16));
            keeps("setting", x -> x.setting(last * 5));
            keeps("holder", x -> x.holder(1 + last * 25));
            keeps("copies", x -> x.copies(1 + last * 25));
            keeps("tired", x -> x.tired(last * 100));
            keeps("dropsIn", x -> x.dropsIn(last * 300));
            CHECK.is(busy().rest(1 + last * 99) > 200, true, "rest is answered");
            BannerParade y = busy();
            y.tick(1 + last * 99);
            CHECK.is(y.count(3), 2 + last * 99, "tick passes");
        }
    }

    private static void twoOutOfRange(String name, int size, int least, int greatest,
            Function<BannerParade, BiFunction<Integer, Integer, Object>> call) {
        for (int k = 0; k < size; k++) {
            int first = k;
            for (int value : new int[] {LEAST, least - 1, greatest + 1, MOST}) {
                argument(name + "(" + k + ", " + value + ")",
                        x -> call.apply(x).apply(first, value));
            }
        }
    }

    private static void secondArgumentOutOfRange() {
        CHECK.about("IllegalArgumentException, the second argument is out of range");
        twoOutOfRange("bearer", 3, 0, 12, x -> x::bearer);
        twoOutOfRange("stand", 2, 0, 8, x -> x::stand);
        twoOutOfRange("plan", 2, 0, 3, x -> x::plan);
        twoOutOfRange("lying", 1, 0, 2, x -> x::lying);
        twoOutOfRange("placeIn", 3, 0, 300, x -> x::placeIn);
        twoOutOfRange("strengthIn", 3, 0, 300, x -> x::strengthIn);
        twoOutOfRange("bannerIn", 3, 0, 300, x -> x::bannerIn);
        twoOutOfRange("shareIn", 2, 0, 300, x -> x::shareIn);
        twoOutOfRange("bestShare", 2, 0, 300, x -> x::bestShare);
        twoOutOfRange("strengthen", 3, -100, 100, x -> x::strengthen);
        twoOutOfRange("setStep", 3, 1, 200, x -> x::setStep);
        CHECK.about("the second argument is just within its range");
        keeps("bearer(2, 12)", x -> x.bearer(2, 12));
        keeps("stand(1, 8)", x -> x.stand(1, 8));
        keeps("plan(1, 3)", x -> x.plan(1, 3));
        keeps("lying(0, 2)", x -> x.lying(0, 2));
        keeps("placeIn(2, 300)", x -> x.placeIn(2, 300));
        keeps("strengthIn(2, 300)", x -> x.strengthIn(2, 300));
        keeps("bannerIn(2, 300)", x -> x.bannerIn(2, 300));
        keeps("shareIn(1, 300)", x -> x.shareIn(1, 300));
        keeps("bestShare(1, 300)", x -> x.bestShare(1, 300));
        CHECK.is(busy().strengthen(1, -100), 0, "strengthen(1, -100)");
        CHECK.is(busy().strengthen(1, 100), 100, "strengthen(1, 100)");
        CHECK.is(busy().setStep(1, 1), 9, "setStep(1, 1)");
        CHECK.is(busy().setStep(1, 200), 9, "setStep(1, 200)");
    }

    /** A busy parade behind some more calls. */
    private static Supplier<BannerParade> behind(Function<BannerParade, Object> calls) {
        return () -> {
            BannerParade x = busy();
            calls.apply(x);
            return x;
        };
    }

    private static void notThen() {
        CHECK.about("promise 53: the time would be greater than 5000");
        Supplier<BannerParade> old = RefusalsTest::old;
        CHECK.is(old.get().count(3), 5000, "the time");
        for (int ticks : new int[] {1, 2, 100, 0, 101, -1, LEAST, MOST}) {
            CHECK.refuses(Check.ARGUMENT, "tick(" + ticks + ") at 5000", old, x -> x.tick(ticks));
        }
        CHECK.about("promise 54: the last one, or they may not swap");
        argument("swap(2)", x -> x.swap(2));
        // the places are 40, -21 and -81, so the distances 61 and 60; the strength is 60, 93, 98
        CHECK.is(busy().swap(0), 3, "0 and 1 may swap at first");
        CHECK.is(busy().swap(1), 0, "1 and 2 may swap at first");
        CHECK.refuses(Check.ARGUMENT, "swap(0) beyond NEAR", behind(x -> x.set(5, 60)),
                x -> x.swap(0));
        CHECK.is(behind(x -> x.set(5, 61)).get().swap(0), 3, "swap(0) at NEAR");
        for (int b = 0; b <= 1; b++) {
            int tired = b;
            CHECK.refuses(Check.ARGUMENT, "swap(0), the strength of " + b + " is 0",
                    behind(x -> x.strengthen(tired, -100)), x -> x.swap(0));
            CHECK.is(behind(x -> x.strengthen(tired, -100) + x.strengthen(tired, 1)).get().swap(0),
                    3, "swap(0), the strength of " + b + " is 1");
        }
        CHECK.about("promise 55: it carries none");
        argument("drop(2)", x -> x.drop(2));
        CHECK.is(busy().drop(1), 2, "drop(1)");
        CHECK.about("promise 56: it carries one, its strength is less than LIFT, or none lies");
        argument("pick(0)", x -> x.pick(0));
        CHECK.is(busy().pick(2), 2, "pick(2)");
        CHECK.refuses(Check.ARGUMENT, "pick(2) with one", behind(x -> x.pick(2)), x -> x.pick(2));
        Supplier<BannerParade> both = behind(x -> x.pick(2) + x.drop(2) + x.swap(1));
        CHECK.refuses(Check.ARGUMENT, "pick(2) with one where one lies", both, x -> x.pick(2));
        CHECK.refuses(Check.ARGUMENT, "pick(1) where none lies", both, x -> x.pick(1));
        CHECK.refuses(Check.ARGUMENT, "pick(2) with less than LIFT", behind(x -> x.set(4, 99)),
                x -> x.pick(2));
        CHECK.is(behind(x -> x.set(4, 98)).get().pick(2), 2, "pick(2) with LIFT");
    }

    private static void plansRefused() {
        CHECK.about("promise 60: time is out of range");
        for (int time : new int[] {LEAST, -1, 0, 1, 5001, MOST}) {
            argument("addPlan(" + time + ", 0)", x -> x.addPlan(time, 0));
            CHECK.refuses(Check.ARGUMENT, "addPlan(" + time + ", 0) at 5000", RefusalsTest::old,
                    x -> x.addPlan(time, 0));
        }
        CHECK.refuses(Check.ARGUMENT, "addPlan(5000, 0) at 5000", RefusalsTest::old,
                x -> x.addPlan(5000, 0));
        CHECK.is(busy().addPlan(2, 0), 2, "addPlan(2, 0) at 1");
        CHECK.is(busy().addPlan(5000, 0), 2, "addPlan(5000, 0)");
        CHECK.about("promise 60: b is the last bearer");
        argument("addPlan(2, 2)", x -> x.addPlan(2, 2));
        argument("addPlan(1, 2)", x -> x.addPlan(1, 2));
        CHECK.is(busy().addPlan(2, 1), 2, "addPlan(2, 1)");
        CHECK.refuses(Check.ARGUMENT, "addPlan(2, 0) of the only bearer",
                () -> Check.loaded("parade 1 2 3 4 5 6;bearer a 1 0"), x -> x.addPlan(2, 0));
        CHECK.about("promise 60: there are 12 plans");
        Function<BannerParade, Object> nine = x -> {
            for (int k = 2; k < 11; k++) {
                CHECK.is(x.addPlan(3, 0), k, "addPlan " + k);
            }
            return 0;
        };
        Function<BannerParade, Object> ten = x -> {
            nine.apply(x);
            x.addPlan(3, 0);
            x.save(1);
            return x.restore(1);
        };
        CHECK.is(behind(nine).get().addPlan(9, 0), 11, "the 12th plan");
        CHECK.refuses(Check.ARGUMENT, "a 13th plan", behind(ten), x -> x.addPlan(9, 0));
        CHECK.refuses(Check.ARGUMENT, "a 13th plan behind some that were done", behind(x -> {
            ten.apply(x);
            return x.tick(5);
        }), x -> x.addPlan(9, 0));
    }

    private static void settingsRefused() {
        CHECK.about("promise 61: what or value is out of range");
        int[] before = {50, 30, 40, 5, 20, 61};
        int[] least = {1, 0, 1, 0, 1, 0};
        int[] greatest = {999, 9999, 9999, 50, 100, 9999};
        for (int what = 0; what < 6; what++) {
            int k = what;
            for (int value : new int[] {LEAST, least[k] - 1, greatest[k] + 1, MOST}) {
                argument("set(" + k + ", " + value + ")", x -> x.set(k, value));
            }
            CHECK.is(busy().set(k, least[k]), before[k], "set(" + k + ") to the least");
            CHECK.is(busy().set(k, greatest[k]), before[k], "set(" + k + ") to the greatest");
        }
        for (int what : new int[] {LEAST, -1, 6, MOST}) {
            argument("set(" + what + ", 5)", x -> x.set(what, 5));
            argument("set(" + what + ", -1)", x -> x.set(what, -1));
        }
    }

    private static void loadRefused() {
        CHECK.about("promise 3: n is negative or greater than the number of bytes in the buffer");
        List<Supplier<BannerParade>> made = new ArrayList<>();
        made.add(BannerParade::new);
        made.add(RefusalsTest::unloaded);
        made.add(RefusalsTest::busy);
        made.add(RefusalsTest::empty);
        for (Supplier<BannerParade> some : made) {
            int size = some.get().buffered();
            for (int n : new int[] {LEAST, -1, size + 1, 700, 701, MOST}) {
                CHECK.refuses(Check.INDEX, "load(" + n + ")", some, x -> x.load(n));
            }
        }
        CHECK.about("promise 3: IndexOutOfBoundsException ahead of the error that the text has");
        Supplier<BannerParade> wrong = behind(x -> x.append(0, 0, 0, 0, 0));
        index("load(41)", x -> x.load(41));
        CHECK.refuses(Check.INDEX, "load(61) of a text with an error", wrong, x -> x.load(61));
        BannerParade y = wrong.get();
        CHECK.fails(Check.ARGUMENT, "load(60)", () -> y.load(60));
        BannerParade z = busy();
        CHECK.is(z.load(40), 1, "load(40) of all bytes");
        CHECK.about("promise 3: the text has an error; the previous parade stays");
        for (int n : new int[] {0, 6, 17, 40, 41, 59, 60}) {
            BannerParade before = wrong.get();
            BannerParade after = wrong.get();
            if (n != 40) {
                CHECK.fails(Check.ARGUMENT, "load(" + n + ")", () -> after.load(n));
                CHECK.is(after.buffered(), 0, "the buffer is empty");
                CHECK.fails(Check.ARGUMENT, "load(0)", () -> before.load(0));
                CHECK.fails(Check.ARGUMENT, "load(0)", () -> after.load(0));
                CHECK.is(Whole.used(after), Whole.used(before), "all else stays");
            }
        }
    }
}

import java.nio.charset.StandardCharsets;
import java.util.ArrayDeque;
import java.util.ArrayList;
import java.util.Deque;
import java.util.List;
import java.util.function.IntPredicate;
import java.util.function.Predicate;
import java.util.regex.Matcher;
import java.util.regex.Pattern;
import java.util.stream.Collectors;
import java.util.stream.IntStream;

/** The document told a second time, as plainly as the Java library allows; for RandomRunsTest. */
final class Model {
    static final int NONE = -1;
    private static final int[][] BOUNDS =
            {{1, 999}, {0, 9999}, {1, 9999}, {0, 50}, {1, 100}, {0, 9999}};
    private static final Pattern TOKEN = Pattern.compile("[a-z]+|[0-9]+|;|[^ ]");

    private String buffer = "";
    private int code = 0;
    private int position = NONE;
    private World world = null;
    private Deque<World> past = new ArrayDeque<>();
    private World[] saved = new World[2];
    private String text = "";

    private static final class Bearer {
        int own;
        int step;
        int lag;
        int strength = 100;
        int place;
        int earlier;
        int banner;
        int moved = 0;

        int stride() {
            float product = (float) step * (float) strength;
            float hundredth = product / 100f;
            return (int) hundredth;
        }

        Bearer copy() {
            Bearer twin = new Bearer();
            twin.own = own;
            twin.step = step;
            twin.lag = lag;
            twin.strength = strength;
            twin.place = place;
            twin.earlier = earlier;
            twin.banner = banner;
            twin.moved = moved;
            return twin;
        }
    }

    private record Lying(int letter, int place, int time) {
    }

    private record Plan(int time, int bearer, int outcome) {
    }

    private record Stand(boolean right, int place, String word, int readAt) {
    }

    private record Seen(String text, List<Integer> bearers) {
    }

    private static final class World {
        int time = 0;
        int[] settings = new int[6];
        List<Bearer> bearers = new ArrayList<>();
        List<Lying> ground = new ArrayList<>();
        List<Plan> plans = new ArrayList<>();
        List<Stand> stands = new ArrayList<>();
        int swaps = 0;
        int drops = 0;
        int picks = 0;

        World copy() {
            World twin = new World();
            twin.time = time;
            twin.settings = settings.clone();
            bearers.forEach(b -> twin.bearers.add(b.copy()));
            twin.ground.addAll(ground);
            twin.plans.addAll(plans);
            twin.stands.addAll(stands);
            twin.swaps = swaps;
            twin.drops = drops;
            twin.picks = picks;
            return twin;
        }

        World in(int ticks) {
            World twin = copy();
            for (int k = 0; k < ticks; k++) {
                twin.tick();
            }
            return twin;
        }

        int distance(int b) {
            return bearers.get(b - 1).place - bearers.get(b).place;
        }

        boolean maySwap(int b) {
            return b < bearers.size() - 1 && distance(b + 1) <= settings[5]
                    && bearers.get(b).strength > 0 && bearers.get(b + 1).strength > 0;
        }

        void exchange(int b) {
            Bearer ahead = bearers.get(b);
            Bearer behind = bearers.get(b + 1);
            int letter = ahead.banner;
            ahead.banner = behind.banner;
            behind.banner = letter;
        }

        void swap(int b) {
            exchange(b);
            for (Bearer one : List.of(bearers.get(b), bearers.get(b + 1))) {
                one.strength = Math.max(one.strength - 2, 0);
            }
            swaps++;
        }

        void drop(Bearer one) {
            ground.add(new Lying(one.banner, one.place, time));
            one.banner = 0;
            drops++;
        }

        boolean pick(Bearer one, int from, int to) {
            Lying best = null;
            for (Lying it : ground) {
                if (it.place >= from && it.place <= to && (best == null || it.place > best.place)) {
                    best = it;
                }
            }
            if (one.banner != 0 || one.strength < settings[4] || best == null) {
                return false;
            }
            one.banner = best.letter;
            final Lying taken = best;
            int at = IntStream.range(0, ground.size()).filter(k -> ground.get(k) == taken)
                    .findFirst().getAsInt();
            ground.remove(at);
            picks++;
            return true;
        }

        int tick() {
            time++;
            for (int k = 0; k < plans.size(); k++) {
                Plan plan = plans.get(k);
                if (plan.time == time) {
                    boolean may = maySwap(plan.bearer);
                    if (may) {
                        swap(plan.bearer);
                    }
                    plans.set(k, new Plan(plan.time, plan.bearer, may ? 1 : 2));
                }
            }
            Bearer ahead = null;
            for (Bearer one : bearers) {
                one.earlier = one.place;
                int reach = one.place + one.stride();
                int wall = ahead == null ? Integer.MAX_VALUE : ahead.place - settings[0];
                one.place = Math.max(one.place, Math.min(reach, wall));
                if (one.place > one.earlier) {
                    one.moved++;
                    one.strength = Math.max(one.strength - one.lag, 0);
                } else {
                    one.strength = Math.min(one.strength + settings[3], 100);
                }
                ahead = one;
            }
            bearers.stream().filter(b -> b.banner != 0 && b.strength == 0).forEach(this::drop);
            bearers.forEach(b -> pick(b, b.earlier, b.place));
            int words = 0;
            for (int s = 0; s < stands.size(); s++) {
                Stand it = stands.get(s);
                if (it.readAt == NONE && view(s).text.equals(it.word)) {
                    stands.set(s, new Stand(it.right, it.place, it.word, time));
                    words++;
                }
            }
            return words;
        }

        boolean sees(Stand stand, Bearer one) {
            return one.banner != 0 && one.place >= stand.place - settings[1]
                    && one.place <= stand.place + settings[1];
        }

        Seen view(int s) {
            Stand stand = stands.get(s);
            List<Integer> order = new ArrayList<>();
            for (int b = 0; b < bearers.size(); b++) {
                if (sees(stand, bearers.get(b))) {
                    order.add(stand.right ? 0 : order.size(), b);
                }
            }
            StringBuilder read = new StringBuilder();
            for (int k = 0; k < order.size(); k++) {
                Bearer one = bearers.get(order.get(k));
                if (k > 0) {
                    int gap = bearers.get(order.get(k - 1)).place - one.place;
                    read.append(gap > settings[2] || -gap > settings[2] ? " " : "");
                }
                read.append((char) ('a' + one.banner - 1));
            }
            return new Seen(read.toString(), order);
        }

        int matches(int s) {
            String read = view(s).text;
            String word = stands.get(s).word;
            return (int) IntStream.range(0, Math.min(read.length(), word.length()))
                    .filter(i -> read.charAt(i) == word.charAt(i)).count();
        }

        float share(int s) {
            int longer = Math.max(view(s).text.length(), stands.get(s).word.length());
            return (float) matches(s) / (float) longer;
        }

        int bearersThat(Predicate<Bearer> test) {
            return (int) bearers.stream().filter(test).count();
        }
    }

    // ---- input

    int append(int a, int b, int c, int d, int e) {
        byte[] bytes = new byte[20];
        int[] words = {a, b, c, d, e};
        for (int i = 0; i < 20; i++) {
            bytes[i] = (byte) (words[i / 4] >> (24 - i % 4 * 8));
        }
        if (buffer.length() + 20 > 700) {
            return NONE;
        }
        buffer += new String(bytes, StandardCharsets.ISO_8859_1);
        return buffer.length();
    }

    private static final class Fault extends RuntimeException {
        private static final long serialVersionUID = 1L;
        final int code;
        final int at;

        Fault(int code, int at) {
            this.code = code;
            this.at = at;
        }
    }

    private static final class Reader {
        final List<String> tokens = new ArrayList<>();
        final List<Integer> starts = new ArrayList<>();
        final World world = new World();
        int next = 0;

        Reader(String source) {
            Matcher matcher = TOKEN.matcher(source);
            while (matcher.find()) {
                tokens.add(matcher.group());
                starts.add(matcher.start());
            }
            tokens.add("");
            starts.add(source.length());
        }

        Fault fault(int code) {
            return new Fault(code, starts.get(next - 1));
        }

        String token(String form) {
            String token = tokens.get(next++);
            if (!token.matches(form)) {
                throw fault(1);
            }
            return token;
        }

        int number(int least, int greatest) {
            int value = Integer.parseInt(token("[0-9]{1,4}"));
            if (value < least || value > greatest) {
                throw fault(2);
            }
            return value;
        }

        World parse() {
            token("parade");
            for (int k = 0; k < 6; k++) {
                world.settings[k] = number(BOUNDS[k][0], BOUNDS[k][1]);
            }
            while (!token(";|").isEmpty()) {
                String kind = token("bearer|stand|plan");
                if (kind.equals("bearer")) {
                    bearer();
                } else if (kind.equals("stand")) {
                    stand();
                } else {
                    plan();
                }
            }
            return world;
        }

        void limit(int size, int most) {
            if (size == most) {
                throw fault(4);
            }
        }

        void bearer() {
            limit(world.bearers.size(), 12);
            Bearer one = new Bearer();
            one.own = token("[a-z]").charAt(0) - 'a' + 1;
            one.banner = one.own;
            one.step = number(1, 200);
            one.lag = number(0, 20);
            one.place = -world.settings[0] * world.bearers.size();
            world.bearers.add(one);
        }

        void stand() {
            limit(world.stands.size(), 6);
            boolean right = token("left|right").equals("right");
            int place = number(0, 9999);
            world.stands.add(new Stand(right, place, token("[a-z]{1,8}"), NONE));
        }

        void plan() {
            limit(world.plans.size(), 12);
            int time = number(1, 5000);
            world.plans.add(new Plan(time, number(0, world.bearers.size() - 2), 0));
        }
    }

    int load(int n) {
        index(n, buffer.length() + 1);
        String source = buffer.substring(0, n);
        buffer = "";
        try {
            world = new Reader(source).parse();
        } catch (Fault fault) {
            code = fault.code;
            position = fault.at;
            throw new IllegalArgumentException();
        }
        code = 0;
        position = NONE;
        past.clear();
        saved = new World[2];
        return world.bearers.size();
    }

    int parseError() {
        return code;
    }

    int errorPosition() {
        return position;
    }

    int buffered() {
        return buffer.length();
    }

    // ---- what there is

    /** For the choice of arguments. */
    int time() {
        return world == null ? 0 : world.time;
    }

    /** How many things the first argument of a call chooses from, or a little more. */
    int sizeFor(String name) {
        if (world == null) {
            return 3;
        }
        switch (name) {
            case "plan": return world.plans.size();
            case "lying": return world.ground.size();
            case "bearer": case "placeIn": case "strengthIn": case "bannerIn": case "closedIn":
            case "swap": case "drop": case "pick": case "strengthen": case "setStep":
                return world.bearers.size();
            case "setting": return 6;
            default: return world.stands.size();
        }
    }

    private void some() {
        if (world == null) {
            throw new IllegalStateException();
        }
    }

    private static void index(int index, int size) {
        if (index < 0 || index >= size) {
            throw new IndexOutOfBoundsException();
        }
    }

    private static void range(int value, int least, int greatest) {
        if (value < least || value > greatest) {
            throw new IllegalArgumentException();
        }
    }

    private static void must(boolean fits) {
        range(fits ? 1 : 0, 1, 1);
    }

    private Bearer one(int b) {
        some();
        index(b, world.bearers.size());
        return world.bearers.get(b);
    }

    private Stand place(int s) {
        some();
        index(s, world.stands.size());
        return world.stands.get(s);
    }

    private int setOf(int size, IntPredicate test) {
        return IntStream.range(0, size).filter(test).map(k -> 1 << k).sum();
    }

    private int firstOf(int size, IntPredicate test) {
        return IntStream.range(0, size).filter(test).findFirst().orElse(NONE);
    }

    int count(int what) {
        some();
        range(what, 0, 16);
        World w = world;
        int size = w.bearers.size();
        return new int[] {
            size, w.stands.size(), w.plans.size(), w.time,
            w.bearersThat(b -> b.banner != 0), w.ground.size(), w.swaps,
            (int) w.plans.stream().filter(p -> p.outcome == 2).count(),
            w.drops, w.picks,
            (int) w.stands.stream().filter(s -> s.readAt >= 0).count(),
            (int) w.plans.stream().filter(p -> p.time > w.time).count(),
            w.bearersThat(b -> b.strength == 0),
            w.bearersThat(b -> b.banner == b.own),
            (int) IntStream.range(1, size).filter(b -> w.distance(b) <= w.settings[0]).count(),
            w.bearers.stream().mapToInt(Bearer::stride).sum(),
            (int) w.stands.stream().filter(s -> w.bearersThat(b -> w.sees(s, b)) > 0).count(),
        }[what];
    }

    int setting(int what) {
        some();
        range(what, 0, 5);
        return world.settings[what];
    }

    int bearer(int b, int what) {
        Bearer it = one(b);
        range(what, 0, 12);
        return new int[] {
            it.banner, it.place, it.step, it.lag, it.strength, it.stride(),
            b == 0 ? NONE : world.distance(b), it.moved, it.own,
            (int) world.stands.stream().filter(s -> world.sees(s, it)).count(),
            one(0).place - it.place,
            world.bearersThat(o -> o.strength < it.strength),
            world.ground.stream().anyMatch(l -> l.place == it.place) ? 1 : 0,
        }[what];
    }

    int stand(int s, int what) {
        Stand it = place(s);
        range(what, 0, 8);
        int reach = world.settings[1];
        return new int[] {
            it.right ? 1 : 0, it.place, it.word.length(), it.readAt,
            world.view(s).bearers.size(), world.view(s).text.length(),
            world.bearers.stream().mapToInt(b -> Math.abs(b.place - it.place)).min().orElse(NONE),
            world.bearersThat(b -> b.place > it.place + reach),
            world.bearersThat(b -> b.place < it.place - reach),
        }[what];
    }

    int plan(int k, int what) {
        some();
        index(k, world.plans.size());
        range(what, 0, 3);
        Plan it = world.plans.get(k);
        int left = it.time - world.time;
        return new int[] {it.time, it.bearer, it.outcome, left > 0 ? left : NONE}[what];
    }

    int lying(int k, int what) {
        some();
        index(k, world.ground.size());
        range(what, 0, 2);
        Lying it = world.ground.get(k);
        return new int[] {it.letter, it.place, it.time}[what];
    }

    private static int byteOf(String from, int i) {
        return i >= 0 && i < from.length() ? from.charAt(i) : NONE;
    }

    int wordByte(int s, int i) {
        return byteOf(place(s).word, i);
    }

    int readByte(int s, int i) {
        place(s);
        return byteOf(world.view(s).text, i);
    }

    // ---- what is seen

    int seen(int s) {
        place(s);
        return world.view(s).bearers.stream().mapToInt(b -> 1 << b).sum();
    }

    int matches(int s) {
        place(s);
        return world.matches(s);
    }

    boolean isRead(int s) {
        return place(s).word.equals(world.view(s).text);
    }

    float share(int s) {
        place(s);
        return world.share(s);
    }

    int shareBits(int s) {
        return Float.floatToIntBits(share(s));
    }

    int missing(int s) {
        List<Integer> left = new ArrayList<>(place(s).word.chars().boxed().toList());
        world.bearers.forEach(b -> left.remove((Integer) (b.banner + 96)));
        return left.size();
    }

    int seenAt(int s, int k) {
        place(s);
        List<Integer> order = world.view(s).bearers;
        return k >= 0 && k < order.size() ? order.get(k) : NONE;
    }

    int blanks(int s) {
        place(s);
        return (int) world.view(s).text.chars().filter(c -> c == ' ').count();
    }

    int prefix(int s) {
        String word = place(s).word;
        String read = world.view(s).text;
        int length = Math.min(word.length(), read.length());
        while (!word.startsWith(read.substring(0, length))) {
            length--;
        }
        return length;
    }

    int holder(int letter) {
        some();
        range(letter, 1, 26);
        return firstOf(world.bearers.size(), b -> one(b).banner == letter);
    }

    int copies(int letter) {
        some();
        range(letter, 1, 26);
        return world.bearersThat(b -> b.banner == letter)
                + (int) world.ground.stream().filter(l -> l.letter == letter).count();
    }

    int tired(int strength) {
        some();
        range(strength, 0, 100);
        return setOf(world.bearers.size(), b -> one(b).strength <= strength);
    }

    int swappers() {
        some();
        return setOf(world.bearers.size(), b -> world.maySwap(b));
    }

    int nextPlan() {
        some();
        int least = world.plans.stream().filter(p -> p.outcome == 0).mapToInt(Plan::time).min()
                .orElse(NONE);
        return firstOf(world.plans.size(), k -> world.plans.get(k).time == least);
    }

    int lyingFrom(int from, int to) {
        some();
        return (int) world.ground.stream().filter(l -> from <= l.place && l.place <= to).count();
    }

    int bestStand() {
        some();
        int size = world.stands.size();
        double most = IntStream.range(0, size).mapToDouble(s -> world.share(s)).max().orElse(0);
        return firstOf(size, s -> world.share(s) == most);
    }

    int readStands() {
        some();
        return setOf(world.stands.size(), s -> place(s).readAt != NONE);
    }

    int weakest() {
        some();
        int least = world.bearers.stream().mapToInt(b -> b.strength).min().orElse(NONE);
        return firstOf(world.bearers.size(), b -> one(b).strength == least);
    }

    int widest() {
        some();
        int size = world.bearers.size();
        int most = IntStream.range(1, size).map(b -> world.distance(b)).max().orElse(NONE);
        return firstOf(size, b -> b > 0 && world.distance(b) == most);
    }

    int stretch() {
        some();
        return IntStream.range(1, world.bearers.size()).map(b -> world.distance(b)).sum();
    }

    double meanStrength() {
        some();
        int sum = world.bearers.stream().mapToInt(b -> b.strength).sum();
        return world.bearers.isEmpty() ? 0.0 : (double) sum / (double) world.bearers.size();
    }

    long strengthBits() {
        return Double.doubleToLongBits(meanStrength());
    }

    // ---- what would be

    private int within(Predicate<World> test) {
        World w = world.copy();
        for (int ticks = 0; ticks <= 300; ticks++) {
            if (test.test(w)) {
                return ticks;
            }
            w.tick();
        }
        return NONE;
    }

    int readsIn(int s) {
        String word = place(s).word;
        return within(w -> w.view(s).text.equals(word));
    }

    int passedIn(int s) {
        int end = place(s).place + world.settings[1];
        return within(w -> w.bearers.stream().allMatch(b -> b.place > end));
    }

    int placeIn(int b, int ticks) {
        one(b);
        range(ticks, 0, 300);
        return world.in(ticks).bearers.get(b).place;
    }

    int strengthIn(int b, int ticks) {
        one(b);
        range(ticks, 0, 300);
        return world.in(ticks).bearers.get(b).strength;
    }

    int bannerIn(int b, int ticks) {
        one(b);
        range(ticks, 0, 300);
        return world.in(ticks).bearers.get(b).banner;
    }

    int dropsIn(int ticks) {
        some();
        range(ticks, 0, 300);
        return world.in(ticks).drops - world.drops;
    }

    int firstDrop() {
        some();
        return within(w -> w.drops > world.drops);
    }

    float shareIn(int s, int ticks) {
        place(s);
        range(ticks, 0, 300);
        return world.in(ticks).share(s);
    }

    float bestShare(int s, int ticks) {
        place(s);
        range(ticks, 0, 300);
        World w = world.copy();
        float best = w.share(s);
        for (int k = 0; k < ticks; k++) {
            w.tick();
            best = Math.max(best, w.share(s));
        }
        return best;
    }

    int bestSwap(int s) {
        place(s);
        List<Float> shares = new ArrayList<>();
        for (int b = 0; b < world.bearers.size() - 1; b++) {
            World w = world.copy();
            w.exchange(b);
            shares.add(w.share(s));
        }
        float best = shares.stream().max(Float::compare).orElse(0f);
        return best > world.share(s) ? shares.indexOf(best) : NONE;
    }

    int closedIn(int b) {
        one(b);
        return b == 0 ? NONE : within(w -> w.distance(b) == w.settings[0]);
    }

    int leastRest() {
        some();
        return firstOf(51, rest -> {
            World w = world.copy();
            w.settings[3] = rest;
            return w.in(100).drops == world.drops;
        });
    }

    // ---- texts

    private int write(String it) {
        text = it;
        return it.length();
    }

    int writeStand(int s) {
        place(s);
        return write(world.view(s).text);
    }

    int writeRow() {
        some();
        return write(world.bearers.stream()
                .map(b -> b.banner == 0 ? "-" : "" + (char) (96 + b.banner))
                .collect(Collectors.joining()));
    }

    int writePlaces() {
        some();
        return write(world.bearers.stream().map(b -> "" + b.place)
                .collect(Collectors.joining(",")));
    }

    int textByte(int i) {
        index(i, text.length());
        return text.charAt(i);
    }

    // ---- changes

    private void change() {
        past.addLast(world.copy());
        if (past.size() > 8) {
            past.removeFirst();
        }
    }

    int tick(int ticks) {
        some();
        range(ticks, 1, 100);
        must(world.time + ticks <= 5000);
        change();
        int words = 0;
        for (int k = 0; k < ticks; k++) {
            words += world.tick();
        }
        return words;
    }

    int swap(int b) {
        one(b);
        must(world.maySwap(b));
        change();
        world.swap(b);
        return one(b).banner;
    }

    int drop(int b) {
        must(one(b).banner != 0);
        change();
        world.drop(one(b));
        return world.ground.size();
    }

    int pick(int b) {
        one(b);
        World before = world.copy();
        must(world.pick(one(b), one(b).place, one(b).place));
        World after = world;
        world = before;
        change();
        world = after;
        return one(b).banner;
    }

    int strengthen(int b, int by) {
        one(b);
        range(by, -100, 100);
        change();
        one(b).strength = Math.min(100, Math.max(0, one(b).strength + by));
        return one(b).strength;
    }

    int rest(int by) {
        some();
        range(by, 1, 100);
        change();
        world.bearers.forEach(b -> b.strength = Math.min(100, b.strength + by));
        return world.bearers.stream().mapToInt(b -> b.strength).sum();
    }

    int setStep(int b, int step) {
        int previous = one(b).step;
        range(step, 1, 200);
        change();
        one(b).step = step;
        return previous;
    }

    int addPlan(int time, int b) {
        one(b);
        must(time > world.time && time <= 5000);
        must(b < world.bearers.size() - 1 && world.plans.size() < 12);
        change();
        world.plans.add(new Plan(time, b, 0));
        return world.plans.size() - 1;
    }

    int set(int what, int value) {
        int previous = setting(what);
        range(value, BOUNDS[what][0], BOUNDS[what][1]);
        change();
        world.settings[what] = value;
        return previous;
    }

    int undo() {
        if (past.isEmpty()) {
            throw new IllegalStateException();
        }
        world = past.removeLast();
        return past.size();
    }

    int undoable() {
        return past.size();
    }

    int save(int slot) {
        some();
        index(slot, 2);
        saved[slot] = world.copy();
        return world.time;
    }

    int restore(int slot) {
        index(slot, 2);
        if (saved[slot] == null) {
            throw new IllegalStateException();
        }
        world = saved[slot].copy();
        past.clear();
        return world.time;
    }
}

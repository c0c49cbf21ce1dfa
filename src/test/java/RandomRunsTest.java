import java.lang.reflect.InvocationTargetException;
import java.lang.reflect.Method;
import java.lang.reflect.Modifier;
import java.util.ArrayList;
import java.util.Comparator;
import java.util.List;
import java.util.Random;

/** Long runs of calls with chosen arguments, each answer compared with that of Model. */
public final class RandomRunsTest {
    private static final int RUNS = 1000;
    private static final int CALLS = 512;
    private static final int LOAD_CALLS = 40;
    private static final int[] EDGES = {-1, 0, 1, 2, 5, 6, 8, 11, 12, 13, 16, 17, 26, 27, 50, 51,
        99, 100, 101, 200, 201, 300, 301, 700, 701, 999, 1000, 5000, 5001, 9999, 10000,
        Integer.MAX_VALUE, Integer.MIN_VALUE};
    private static final List<String> CHANGES = List.of("tick", "swap", "drop", "pick",
            "strengthen", "rest", "setStep", "addPlan", "set", "undo", "restore", "save");

    private final Random random;
    private final int run;
    private final BannerParade parade = new BannerParade();
    private final Model model = new Model();
    private final List<Method> calls = new ArrayList<>();
    private final List<String> history = new ArrayList<>();

    private RandomRunsTest(int run) {
        this.run = run;
        random = new Random(run);
        for (Method method : BannerParade.class.getDeclaredMethods()) {
            if (Modifier.isPublic(method.getModifiers())) {
                calls.add(method);
            }
        }
        calls.sort(Comparator.comparing(Method::getName));
    }

    public static void main(String[] args) {
        int runs = args.length > 0 ? Integer.parseInt(args[0]) : RUNS;
        for (int run = 0; run < runs; run++) {
            if (!new RandomRunsTest(run).passes() || !new RandomRunsTest(run).parsesAlike()) {
                System.exit(1);
            }
        }
        System.out.println(runs + " random runs are as the model has them");
    }

    private boolean passes() {
        int left = CALLS;
        if (run % 8 != 0) {
            left -= load(text());
        }
        boolean fine = true;
        while (fine && left > 0) {
            if (left > LOAD_CALLS && random.nextInt(150) == 0) {
                String text = random.nextInt(3) == 0 ? text() : spoilt(text());
                left -= load(text);
                fine = history.isEmpty() || !history.get(history.size() - 1).startsWith("WRONG");
                continue;
            }
            Method method = calls.get(random.nextInt(calls.size()));
            if (random.nextInt(3) == 0) {
                String name = CHANGES.get(random.nextInt(CHANGES.size()));
                method = calls.stream().filter(m -> m.getName().equals(name)).findFirst().get();
            }
            fine = ask(method, arguments(method));
            left--;
        }
        if (!fine) {
            history.forEach(System.out::println);
        }
        return fine;
    }

    /** Texts with an error, mostly, and what one sees of them. */
    private boolean parsesAlike() {
        boolean fine = true;
        for (int left = CALLS; fine && left > LOAD_CALLS + 4;) {
            left -= load(random.nextInt(4) == 0 ? text() : spoilt(text()));
            for (String name : List.of("writeRow", "writePlaces", "undoable", "strengthBits")) {
                fine = ask(named(name), new Object[0]);
                left--;
            }
        }
        if (!fine) {
            history.forEach(System.out::println);
        }
        return fine;
    }

    /** Returns how many calls that took. */
    private int load(String text) {
        byte[] bytes = new byte[(text.length() + 19) / 20 * 20];
        for (int i = 0; i < bytes.length; i++) {
            bytes[i] = (byte) (i < text.length() ? text.charAt(i) : ' ');
        }
        if (random.nextInt(10) == 0) {
            ask(named("load"), new Object[] {0});
        }
        for (int at = 0; at < bytes.length; at += 20) {
            Object[] words = new Object[5];
            for (int w = 0; w < 5; w++) {
                int word = 0;
                for (int i = 0; i < 4; i++) {
                    word = word << 8 | bytes[at + 4 * w + i] & 255;
                }
                words[w] = word;
            }
            ask(named("append"), words);
        }
        ask(named("buffered"), new Object[0]);
        history.add("text: " + text);
        boolean whole = random.nextInt(10) > 0;
        ask(named("load"), new Object[] {whole ? text.length() : random.nextInt(720) - 5});
        ask(named("parseError"), new Object[0]);
        ask(named("errorPosition"), new Object[0]);
        return bytes.length / 20 + 5;
    }

    private Method named(String name) {
        return calls.stream().filter(m -> m.getName().equals(name)).findFirst().get();
    }

    private boolean ask(Method method, Object[] arguments) {
        if (!history.isEmpty() && history.get(history.size() - 1).startsWith("WRONG")) {
            return false;
        }
        Object got = answer(method, parade, arguments);
        Object want;
        try {
            Method twin = Model.class.getDeclaredMethod(method.getName(),
                    method.getParameterTypes());
            want = answer(twin, model, arguments);
        } catch (NoSuchMethodException e) {
            want = "the model has no such method";
        }
        String told = method.getName() + List.of(arguments) + " = " + got;
        boolean same = got.equals(want);
        history.add(same ? told : "WRONG in run " + run + ": " + told + ", due is " + want);
        return same;
    }

    private static Object answer(Method method, Object on, Object[] arguments) {
        try {
            return method.invoke(on, arguments);
        } catch (InvocationTargetException e) {
            return "throws " + e.getCause().getClass().getName();
        } catch (IllegalAccessException e) {
            throw new IllegalStateException(e);
        }
    }

    private Object[] arguments(Method method) {
        Object[] chosen = new Object[method.getParameterCount()];
        for (int i = 0; i < chosen.length; i++) {
            chosen[i] = argument(method.getName(), i);
        }
        return chosen;
    }

    private int argument(String name, int i) {
        if (random.nextInt(12) == 0) {
            return EDGES[random.nextInt(EDGES.length)];
        }
        switch (name) {
            case "load": return random.nextInt(30);
            case "count": return random.nextInt(17);
            case "holder": case "copies": return 1 + random.nextInt(26);
            case "tired": case "rest": return 1 + random.nextInt(100);
            case "tick": return 1 + random.nextInt(random.nextInt(8) == 0 ? 100 : 4);
            case "dropsIn": return random.nextInt(301);
            case "undo": case "save": case "restore": return random.nextInt(2);
            case "lyingFrom": return random.nextInt(1200) - 300;
            case "textByte": return random.nextInt(40);
            case "addPlan":
                return i == 0 ? model.time() + random.nextInt(15)
                        : random.nextInt(1 + model.sizeFor("bearer"));
            case "set": return i == 0 ? random.nextInt(6) : settingValue();
            default: break;
        }
        if (i == 0) {
            return random.nextInt(1 + model.sizeFor(name));
        }
        switch (name) {
            case "strengthen": return random.nextInt(201) - 100;
            case "setStep": return random.nextInt(202);
            case "placeIn": case "strengthIn": case "bannerIn": case "shareIn": case "bestShare":
                return random.nextInt(random.nextInt(3) == 0 ? 301 : 20);
            default: return random.nextInt(14);
        }
    }

    private int settingValue() {
        int[] most = {10, 60, 110, 310, 1100, 10100};
        return random.nextInt(most[random.nextInt(most.length)]);
    }

    /** A parade, mostly with a few letters only, so that words come to be read. */
    private String text() {
        int[] space = {1 + random.nextInt(999), 1 + random.nextInt(60)};
        StringBuilder text = new StringBuilder("parade ");
        text.append(space[random.nextInt(5) == 0 ? 0 : 1]).append(' ');
        text.append(random.nextInt(random.nextInt(4) == 0 ? 10000 : 200)).append(' ');
        text.append(1 + random.nextInt(random.nextInt(4) == 0 ? 9999 : 60)).append(' ');
        text.append(random.nextInt(random.nextInt(2) == 0 ? 51 : 6)).append(' ');
        text.append(1 + random.nextInt(random.nextInt(3) == 0 ? 100 : 15)).append(' ');
        text.append(random.nextInt(random.nextInt(4) == 0 ? 10000 : 120));
        int bearers = random.nextInt(5) == 0 ? random.nextInt(13) : 1 + random.nextInt(5);
        int letters = random.nextInt(6) == 0 ? 26 : 1 + random.nextInt(4);
        StringBuilder row = new StringBuilder();
        for (int b = 0; b < bearers; b++) {
            row.append((char) ('a' + random.nextInt(letters)));
            text.append(';').append("bearer ").append(row.charAt(b)).append(' ').append(1 + random.nextInt(random.nextInt(3) == 0 ? 200 : 40))
                    .append(' ').append(random.nextInt(21));
        }
        int stands = random.nextInt(5) == 0 ? random.nextInt(7) : 1 + random.nextInt(3);
        for (int s = 0; s < stands; s++) {
            text.append(random.nextBoolean() ? ";stand left " : " ; stand right ")
                    .append(random.nextInt(random.nextInt(4) == 0 ? 10000 : 300)).append(' ')
                    .append(random.nextInt(3) == 0 ? word(letters) : part(row));
        }
        int plans = bearers < 2 ? 0 : random.nextInt(random.nextInt(5) == 0 ? 13 : 4);
        for (int k = 0; k < plans; k++) {
            text.append(";plan ").append(1 + random.nextInt(random.nextInt(4) == 0 ? 300 : 20))
                    .append(' ').append(random.nextInt(bearers - 1));
        }
        return text.length() > 700 ? text.substring(0, 700) : text.toString();
    }

    private String word(int letters) {
        int length = 1 + random.nextInt(random.nextInt(3) == 0 ? 8 : 3);
        StringBuilder word = new StringBuilder();
        for (int i = 0; i < length; i++) {
            word.append((char) ('a' + random.nextInt(letters)));
        }
        return word.toString();
    }

    /** A word that the row spells somewhere, as seen from the left or from the right. */
    private String part(StringBuilder row) {
        StringBuilder part = new StringBuilder(row);
        if (random.nextBoolean()) {
            part.reverse();
        }
        int from = random.nextInt(part.length() + 1);
        int length = 1 + random.nextInt(4);
        String word = part.substring(from, Math.min(part.length(), from + length));
        return word.isEmpty() ? "z" : word;
    }

    /** The text with a few pieces put in, taken out or put twice. */
    private String spoilt(String text) {
        String[] lines = {"parade", "bearer", "stand", "plan"};
        String[] pieces = {"", " ", ";", "bearer", "; stand", "plan", "9", "00", "x", "0 ", "A",
            "-", "" + (char) 0, "" + (char) 233, ";bearer a 1 0", ";stand left 0 a", ";plan 1 0",
            "10000", "left", "parade", "; bearer z 201 0", "\n"};
        StringBuilder spoilt = new StringBuilder(text);
        for (int k = random.nextInt(3); k >= 0; k--) {
            int from = random.nextInt(spoilt.length() + 1);
            int to = Math.min(spoilt.length(), from + random.nextInt(4));
            if (random.nextBoolean()) {
                from = Math.max(0, spoilt.indexOf(lines[random.nextInt(4)], from));
                to = from;
            }
            if (random.nextInt(3) == 0) {
                otherNumber(spoilt, from);
                continue;
            }
            String piece = pieces[random.nextInt(pieces.length)];
            StringBuilder more = new StringBuilder();
            for (int i = random.nextInt(6) == 0 ? 13 : 1; i > 0; i--) {
                more.append(piece);
            }
            spoilt.replace(from, to, more.toString());
        }
        return spoilt.length() > 700 ? spoilt.substring(0, 700) : spoilt.toString();
    }

    /** Puts another number in place of the first one behind an index. */
    private void otherNumber(StringBuilder text, int behind) {
        int from = behind;
        while (from < text.length() && !Character.isDigit(text.charAt(from))) {
            from++;
        }
        int to = from;
        while (to < text.length() && Character.isDigit(text.charAt(to))) {
            to++;
        }
        text.replace(from, to, "" + Math.abs(EDGES[random.nextInt(EDGES.length - 1)]) % 100000);
    }
}

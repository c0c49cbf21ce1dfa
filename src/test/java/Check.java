import java.util.function.Function;
import java.util.function.Supplier;

/** Counts and prints the answers that are not as due. */
final class Check {
    static final Class<?> STATE = IllegalStateException.class;
    static final Class<?> INDEX = IndexOutOfBoundsException.class;
    static final Class<?> ARGUMENT = IllegalArgumentException.class;

    private int wrong = 0;
    private int asked = 0;
    private String about = "";

    void about(String promise) {
        about = promise;
    }

    void is(Object got, Object want, String what) {
        asked++;
        if (!got.equals(want)) {
            wrong++;
            System.out.println(about + ": " + what + " answered " + got + ", due is " + want);
        }
    }

    /** The exception must be of this very class: the machine's own ones are subclasses. */
    void fails(Class<?> kind, String what, Supplier<Object> call) {
        asked++;
        String got;
        try {
            got = "answered " + call.get();
        } catch (RuntimeException e) {
            if (e.getClass() == kind) {
                return;
            }
            got = "threw " + e;
        }
        wrong++;
        System.out.println(about + ": " + what + " " + got + ", due is " + kind.getName());
    }

    /** The call is refused, and behind it all is as in a twin that was not asked. */
    void refuses(Class<?> kind, String what, Supplier<BannerParade> made,
            Function<BannerParade, Object> call) {
        BannerParade asked = made.get();
        fails(kind, what, () -> call.apply(asked));
        is(Whole.used(asked), Whole.used(made.get()), "all that there is behind " + what);
    }

    /** The call is answered, and behind it all is as in a twin that was not asked. */
    void keepsAll(String what, Supplier<BannerParade> made, Function<BannerParade, Object> call) {
        BannerParade asked = made.get();
        call.apply(asked);
        is(Whole.used(asked), Whole.used(made.get()), "all that there is behind " + what);
    }

    void end() {
        System.out.println(asked + " answers, " + wrong + " of them not as due");
        if (wrong != 0) {
            System.exit(1);
        }
    }

    /** A new object with this text loaded. */
    static BannerParade loaded(String text) {
        BannerParade parade = new BannerParade();
        load(parade, text);
        return parade;
    }

    static int load(BannerParade parade, String text) {
        fill(parade, text);
        return parade.load(text.length());
    }

    /** Appends the text, with blanks behind it up to a multiple of twenty. */
    static void fill(BannerParade parade, String text) {
        for (int at = 0; at < text.length(); at += 20) {
            parade.append(four(text, at), four(text, at + 4), four(text, at + 8),
                    four(text, at + 12), four(text, at + 16));
        }
    }

    private static int four(String text, int at) {
        int word = 0;
        for (int i = at; i < at + 4; i++) {
            word = word << 8 | (i < text.length() ? text.charAt(i) : ' ');
        }
        return word;
    }

    /** The text that was written last. */
    static String written(BannerParade parade, int length) {
        StringBuilder text = new StringBuilder();
        for (int i = 0; i < length; i++) {
            text.append((char) parade.textByte(i));
        }
        return text.toString();
    }
}

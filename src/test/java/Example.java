/** The example of README.md, which ReadmeTest runs and compares with what stands there. */
public final class Example {
    public static void main(String[] args) {
        BannerParade parade = new BannerParade();
        String text = "parade 10 15 20 5 50 12"
                + "; bearer a 40 10; bearer b 50 10"
                + "; stand left 40 ab; stand right 70 ab"
                + "; plan 2 0";
        append(parade, text);
        tell("bearers", parade.load(text.length()));

        tell("ticks until stand 1 reads its word", parade.readsIn(1));
        tell("words read in two ticks", parade.tick(2));
        tell("place of bearer 0", parade.bearer(0, 1));
        tell("stand 1 reads", written(parade, parade.writeStand(1)));

        tell("saved at the time", parade.save(0));
        tell("banners that lie", parade.drop(0));
        tell("row", written(parade, parade.writeRow()));
        tell("share of stand 1", parade.share(1));
        tell("changes that can still be undone", parade.undo());
        tell("row", written(parade, parade.writeRow()));
        tell("words read in 30 ticks more", parade.tick(30));
        tell("restored to the time", parade.restore(0));
        tell("changes that can be undone", parade.undoable());

        try {
            parade.swap(1);
        } catch (IllegalArgumentException e) {
            System.out.println("swap(1) is refused: bearer 1 is the last one");
        }
        try {
            parade.bearer(2, 0);
        } catch (IndexOutOfBoundsException e) {
            System.out.println("bearer(2, 0) is refused: there is no bearer 2");
        }
        try {
            new BannerParade().count(0);
        } catch (IllegalStateException e) {
            System.out.println("count(0) of a new object is refused: no text was loaded");
        }
        String wrong = "parade 10 15 20 5 50 12; bearer a 201 10";
        append(parade, wrong);
        try {
            parade.load(wrong.length());
        } catch (IllegalArgumentException e) {
            tell("error", parade.parseError());
            tell("at byte", parade.errorPosition());
            tell("bearers, as before", parade.count(0));
        }
    }

    /** Twenty bytes a call, and blanks behind the text in the last one. */
    private static void append(BannerParade parade, String text) {
        for (int at = 0; at < text.length(); at += 20) {
            parade.append(four(text, at), four(text, at + 4), four(text, at + 8),
                    four(text, at + 12), four(text, at + 16));
        }
    }

    private static int four(String text, int at) {
        int bytes = 0;
        for (int i = at; i < at + 4; i++) {
            bytes = bytes << 8 | (i < text.length() ? text.charAt(i) : ' ');
        }
        return bytes;
    }

    private static String written(BannerParade parade, int length) {
        StringBuilder text = new StringBuilder();
        for (int i = 0; i < length; i++) {
            text.append((char) parade.textByte(i));
        }
        return text.toString();
    }

    private static void tell(String what, Object answer) {
        System.out.println(what + ": " + answer);
    }
}

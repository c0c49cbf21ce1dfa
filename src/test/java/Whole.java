/**
 * Tells all that can be seen of a parade, so that two of them can be compared. It asks as little
 * as tells all, for an object may be used for 512 calls only: what other answers follow from is
 * left out, and what no change touches is told once for each text that was loaded.
 */
final class Whole {
    private final BannerParade parade;
    private final StringBuilder told = new StringBuilder();

    private Whole(BannerParade parade) {
        this.parade = parade;
    }

    /** What load, undo and restore bring back. */
    static String state(BannerParade parade) {
        Whole whole = new Whole(parade);
        whole.tellParade();
        return whole.told.toString();
    }

    /** All, also what undo, restore and load would bring; the parade is used up by it. */
    static String used(BannerParade parade) {
        Whole whole = new Whole(parade);
        whole.tellInputAndText();
        whole.tellParade();
        for (int k = parade.undoable(); k > 0; k--) {
            whole.tell("\nundo", parade.undo());
            whole.tellState();
        }
        whole.tellSlot(0);
        whole.tellSlot(1);
        whole.tellRestOfInput();
        return whole.told.toString();
    }

    private void tell(String what, Object value) {
        told.append(what).append(' ').append(value).append(' ');
    }

    private void tellInputAndText() {
        tell("buffered", parade.buffered());
        tell("error", parade.parseError());
        tell("at", parade.errorPosition());
        tell("undoable", parade.undoable());
        told.append("text ");
        for (int i = 0; i < 200; i++) {
            try {
                told.append((char) parade.textByte(i));
            } catch (IndexOutOfBoundsException e) {
                break;
            }
        }
    }

    private void tellParade() {
        int bearers;
        try {
            bearers = parade.count(0);
        } catch (IllegalStateException e) {
            tell("\nno parade", "");
            return;
        }
        for (int b = 0; b < bearers; b++) {
            tell("LAG", parade.bearer(b, 3));
            tell("own", parade.bearer(b, 8));
        }
        int stands = parade.count(1);
        for (int s = 0; s < stands; s++) {
            tell("side", parade.stand(s, 0));
            tell("place", parade.stand(s, 1));
            tell("length", parade.stand(s, 2));
            tell("word", parade.wordByte(s, 0));
        }
        tellState();
    }

    private void tellState() {
        tell("\ntime", parade.count(3));
        tell("swaps", parade.count(6));
        tell("drops", parade.count(8));
        tell("picks", parade.count(9));
        for (int what = 0; what < 6; what++) {
            tell("setting", parade.setting(what));
        }
        int bearers = parade.count(0);
        for (int b = 0; b < bearers; b++) {
            tell("banner", parade.bearer(b, 0));
            tell("at", parade.bearer(b, 1));
            tell("STEP", parade.bearer(b, 2));
            tell("strength", parade.bearer(b, 4));
            tell("moved", parade.bearer(b, 7));
        }
        int stands = parade.count(1);
        for (int s = 0; s < stands; s++) {
            tell("read", parade.stand(s, 3));
        }
        tellPlansAndGround();
    }

    private void tellPlansAndGround() {
        int plans = parade.count(2);
        for (int k = 0; k < plans; k++) {
            tell("plan", parade.plan(k, 0));
            tell("of", parade.plan(k, 1));
            tell("came", parade.plan(k, 2));
        }
        int lying = parade.count(5);
        for (int k = 0; k < lying; k++) {
            tell("lies", parade.lying(k, 0));
            tell("at", parade.lying(k, 1));
            tell("since", parade.lying(k, 2));
        }
    }

    private void tellSlot(int slot) {
        try {
            tell("\nrestore " + slot, parade.restore(slot));
            tellState();
        } catch (IllegalStateException e) {
            tell("\nnothing in slot", slot);
        }
    }

    private void tellRestOfInput() {
        try {
            tell("\nload", parade.load(parade.buffered()));
            tellParade();
        } catch (IllegalArgumentException e) {
            tell("\nload fails", parade.parseError());
            tell("at", parade.errorPosition());
        }
    }
}

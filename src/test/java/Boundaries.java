import java.io.IOException;

/** What the tests of the boundary cases share. Each test begins with the sentence of the document that it holds. */
abstract class Boundaries {
    interface Maker {
        OvenDays make();
    }

    interface On {
        long answer(OvenDays x);
    }

    interface OnNumber {
        long answer(OvenDays x, int number);
    }

    static final Class<?> INDEX = IndexOutOfBoundsException.class;
    static final Class<?> ARGUMENT = IllegalArgumentException.class;
    static final Class<?> STATE = IllegalStateException.class;
    static final int NONE = -1;
    static final int SHELF = 8;
    static final int MIN = Integer.MIN_VALUE;
    static final int MAX = Integer.MAX_VALUE;

    private static final int SAVED_STATES = 4;
    private static final Check check = new Check();
    private static final DocText document = readDocument();
    private static String held = "";

    abstract void all();

    private static DocText readDocument() {
        try {
            return new DocText();
        } catch (IOException e) {
            throw new IllegalStateException("the document cannot be read", e);
        }
    }

    /** Names the sentence that the test holds: it must stand in the document at this place. */
    static void holds(String place, String sentence) {
        held = place + ", '" + sentence + "': ";
        check.isTrue(held + "stands in the document", document.name(place, sentence));
    }

    static void is(String what, long got, long want) {
        check.is(held + what, got, want);
    }

    static void isTrue(String what, boolean holds) {
        check.isTrue(held + what, holds);
    }

    /** A call is refused with this very exception, and all is as in a village in which it was not made. */
    static void refused(String what, Class<?> due, Maker maker, On call) {
        unchanged(what, maker, x -> {
            check.refuses(held + what, due, () -> call.answer(x));
            return 0;
        });
    }

    /** A call is refused with this very exception, and the digest is as before it. */
    static void refusedHere(String what, Class<?> due, OvenDays x, On call) {
        long before = x.digest();
        check.refuses(held + what, due, () -> call.answer(x));
        is(what + " changes nothing", x.digest(), before);
    }

    /** A call answers as asked, and all is as in a village in which it was not made. */
    static void onlyAnswers(String what, Maker maker, On call, long want) {
        unchanged(what, maker, x -> {
            is(what, call.answer(x), want);
            return 0;
        });
    }

    private static void unchanged(String what, Maker maker, On call) {
        OvenDays x = maker.make();
        OvenDays y = maker.make();
        call.answer(x);
        is(what + " changes nothing", x.digest(), y.digest());
        same(what + ": the text runs as before", x, y, OvenDays::runCommands);
        same(what + ": stop of the run", x, y, OvenDays::stop);
        same(what + ": after the run", x, y, OvenDays::digest);
        OvenDays undone = maker.make();
        OvenDays other = maker.make();
        call.answer(undone);
        for (int state = 0; state <= SAVED_STATES; state++) {
            same(what + ": undo", undone, other, OvenDays::undo);
            same(what + ": after undo", undone, other, OvenDays::digest);
        }
        same(what + ": length of the text", undone, other, OvenDays::clearCommands);
    }

    private static void same(String what, OvenDays x, OvenDays y, On call) {
        check.same(held + what, () -> call.answer(x), () -> call.answer(y));
    }

    /** The ends of a range and their neighbours inside are answered as asked; those outside are refused. */
    static void range(Class<?> due, int least, int greatest, Maker maker, OnNumber call, long... answers) {
        int[] inside = {least, least + 1, greatest - 1, greatest};
        for (int index = 0; index < inside.length; index++) {
            is("with " + inside[index], call.answer(maker.make(), inside[index]), answers[index]);
        }
        outside(due, least, greatest, maker, call);
    }

    /** What lies outside of a range is refused: the neighbours of its ends, and the ends of all numbers. */
    static void outside(Class<?> due, int least, int greatest, Maker maker, OnNumber call) {
        if (least > MIN) {
            refused("with " + (least - 1), due, maker, x -> call.answer(x, least - 1));
            refused("with " + MIN, due, maker, x -> call.answer(x, MIN));
        }
        if (greatest < MAX) {
            refused("with " + (greatest + 1), due, maker, x -> call.answer(x, greatest + 1));
            refused("with " + MAX, due, maker, x -> call.answer(x, MAX));
        }
    }

    /** A call saves one state, from which an undo brings all back; the village must have room for it on the stack. */
    static void undoable(String what, Maker maker, On call) {
        OvenDays x = maker.make();
        OvenDays y = maker.make();
        long before = x.digest();
        call.answer(x);
        isTrue(what + " saves a state", x.digest() != before);
        x.undo();
        is(what + ", undone", x.digest(), before);
        for (int state = 0; state <= SAVED_STATES; state++) {
            same(what + ": states below", x, y, OvenDays::undo);
            same(what + ": after an undo more", x, y, OvenDays::digest);
        }
    }

    /** A call saves no state: an undo goes back to the state from before the call in front of it. */
    static void savesNothing(String what, Maker maker, On call) {
        OvenDays x = maker.make();
        OvenDays y = maker.make();
        x.setS(5);
        y.setS(5);
        call.answer(x);
        same(what + ": undo", x, y, OvenDays::undo);
        is(what + ": s", x.whole(13), y.whole(13));
        for (int state = 0; state <= SAVED_STATES; state++) {
            same(what + ": states below", x, y, OvenDays::undo);
        }
    }

    static void end() {
        for (String stretch : document.unnamed()) {
            check.isTrue("no test names " + stretch, false);
        }
        check.end();
    }
}

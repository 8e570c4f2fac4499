import java.util.ArrayList;
import java.util.List;

/** "What it is", "UNDO" and "EXCEPTIONS" with the constants, and promises 28 and 29. */
final class UndoBoundaries extends Boundaries {
    private static final String UNDO = "UNDO";
    private static final String EXCEPTIONS = "EXCEPTIONS";
    private static final String SAVES = "Every method that is marked \"undoable\" saves the whole state but the command text and "
            + "the stop on an undo stack when it ends normally, also if it changes nothing.";
    private static final String VALUES = "the number of states on the undo stack, the length of the command text, stop(); whole() "
            + "of 0 to 13; for each household household() of 0 to 7, due(), and balance() of the kinds 0 to 2; nextForWood(); "
            + "for each waiting batch batch() of 0 to 3; for each kept loaf, in ascending order of their numbers, its number and "
            + "loaf() of 0 to 6; for each load of the latest day load() of 0 to 4; likeMarks().";

    @Override
    void all() {
        at512Calls();
        savesTheState();
        restoresEach();
        savesAlsoNothing();
        othersSaveNone();
        refusedSaveNone();
        notTextNorStop();
        stateFromBefore();
        latestFour();
        changesNothing();
        firstListed();
        noneOnlyWithoutException();
        constants();
        undo();
        digest();
        digestValues();
    }

    // ---- what it is

    private void at512Calls() {
        holds("What it is", "An object is used for at most 512 calls after it has been made; what later calls answer is free.");
        OvenDays x = new OvenDays();
        for (int call = 1; call <= 510; call++) {
            x.setS(call);
        }
        is("call 511", x.setS(511), 510);
        is("call 512", x.whole(13), 511);
        // 150 calls type 30 commands, and 361 of the 362 others run them.
        OvenDays y = Setup.typed(new OvenDays(), "join 9;" + "give;".repeat(28) + "   ");
        is("the first run", y.runCommands(), 29);
        for (int call = 152; call <= 510; call++) {
            y.runCommands();
        }
        is("call 511 of runs", y.runCommands(), 0);
        is("call 512 of runs", y.stop(), 3);
    }

    // ---- undo

    private void savesTheState() {
        holds(UNDO, SAVES);
        undoable("join", Setup::rich, x -> x.join(99));
        undoable("remark", Setup::rich, x -> x.remark(0, 99));
        undoable("excuse", Setup::rich, x -> x.excuse(2));
        undoable("bring", Setup::rich, x -> x.bring(0, 0, 1));
        undoable("takeBack", Setup::rich, x -> x.takeBack(0));
        undoable("setS", Setup::rich, x -> x.setS(99));
        undoable("bake", Setup::rich, x -> x.bake(40));
        undoable("bake of dough", UndoBoundaries::coldRich, x -> x.bake(1));
        undoable("claim", Setup::rich, x -> x.claim(0));
        undoable("returnLoaves", Setup::rich, x -> x.returnLoaves(2));
        undoable("giveAway", Setup::rich, OvenDays::giveAway);
        undoable("runCommands", Setup::rich, x -> Setup.run(x, "excuse 0;bake 0;"));
        undoable("bake that drops all kept loaves", UndoBoundaries::fullRich, x -> x.bake(40));
    }

    private void restoresEach() {
        holds(UNDO, SAVES);
        // 7 pale rusks, then a flat bread that is good and one that is dough.
        OvenDays x = Setup.after(7, 2, 7);
        Setup.day(x, 40, 0, 1);
        x.undo();
        x.undo();
        is("the pale ones stay", x.whole(8), 7);
        x.undo();
        x.undo();
        int[] wholes = {1, 0, 20, 0, 0, 0, 0, 0, 0, 0, 0, 0, 0, 1};
        for (int what = 0; what < wholes.length; what++) {
            is("whole(" + what + ") from before", x.whole(what), wholes[what]);
        }
        is("no load", x.load(0, 0), NONE);
        goneLoaves();
        OvenDays y = Setup.with(1, 2);
        y.bring(0, 1, 3);
        y.bring(1, 2, 4);
        y.bake(1);
        y.bring(1, 0, 5);
        y.undo();
        y.undo();
        int[] first = {0, 1, 3, 0};
        int[] second = {1, 2, 4, 1};
        for (int what = 0; what < 4; what++) {
            is("batch 0 from before", y.batch(0, what), first[what]);
            is("batch 1 from before", y.batch(1, what), second[what]);
        }
    }

    /** Loaves that are gone by an undo are neither given away nor claimed nor returned. */
    private static void goneLoaves() {
        int firstLosesGroove2 = Setup.seedFor(4, 1, 16, 2, 4, 0);
        OvenDays x = doubtful(Setup.with(7, 11), firstLosesGroove2);
        x.giveAway();
        x.excuse(1);
        doubtful(x, firstLosesGroove2);
        is("on the shelf", x.loaf(2, 5), SHELF);
        x.undo();
        is("none to give away", x.giveAway(), 0);
        is("none to claim", x.claim(0), 0);
        OvenDays y = doubtful(Setup.with(7, 3), firstLosesGroove2);
        is("with another one", y.whole(11), 1);
        y.excuse(1);
        doubtful(y, firstLosesGroove2);
        is("two with another one", y.whole(11), 2);
        y.undo();
        is("one with another one", y.whole(11), 1);
        is("one to return", y.returnLoaves(1), 1);
        is("returned", y.loaf(0, 5), SHELF);
    }

    /** Households 0 and 1 have a day with a flat bread each. */
    private static OvenDays doubtful(OvenDays x, int seed) {
        x.bring(0, 0, 1);
        x.bring(1, 0, 1);
        x.setS(seed);
        x.bake(40);
        return x;
    }

    /** A village whose oven has 20 again in the evening, and in which flat bread waits. */
    private static OvenDays coldRich() {
        OvenDays x = Setup.rich();
        for (int day = 0; day < 4; day++) {
            x.bring(0, 0, 1);
            x.bake(1);
        }
        x.bring(0, 0, 5);
        x.undo();
        x.undo();
        x.bring(1, 2, 5);
        return x;
    }

    /** 7 loaves are kept, and 216 more will come out. */
    private static OvenDays fullRich() {
        OvenDays x = Setup.rich();
        x.takeBack(0);
        for (int batch = 0; batch < 20; batch++) {
            x.bring(batch % 3, 0, 12);
        }
        x.undo();
        return x;
    }

    private void savesAlsoNothing() {
        holds(UNDO, SAVES);
        undoable("remark to the same", Setup::rich, x -> x.remark(0, 7));
        undoable("excuse again", Setup::rich, x -> x.excuse(0));
        undoable("setS to the same", Setup::rich, x -> x.setS(x.whole(13)));
        undoable("claim of nothing", Setup::rich, x -> x.claim(1));
        undoable("returnLoaves of nothing", Setup::rich, x -> x.returnLoaves(0));
        undoable("giveAway of nothing", () -> Setup.with(1), OvenDays::giveAway);
        OvenDays x = new OvenDays();
        x.runCommands();
        is("an empty run", x.undo(), 0);
        x.giveAway();
        x.giveAway();
        is("two that change nothing", x.undo(), 1);
    }

    private void othersSaveNone() {
        holds(UNDO, SAVES);
        On[] calls = {x -> x.household(0, 0), x -> x.due(0), OvenDays::nextForWood, x -> x.balance(0, 0),
            x -> x.batch(0, 3), x -> x.loaf(0, 0), x -> x.load(0, 0), x -> x.whole(0), x -> x.doughWith(40),
            OvenDays::bestWood, OvenDays::likeMarks, x -> x.freeMark(8), x -> x.type(' '), OvenDays::clearCommands,
            OvenDays::stop, OvenDays::digest, x -> x.type('x') + x.runCommands()};
        for (int call = 0; call < calls.length; call++) {
            savesNothing("call " + call, Setup::rich, calls[call]);
        }
        OvenDays x = new OvenDays();
        x.type(' ');
        x.digest();
        refusedHere("no state at all", STATE, x, OvenDays::undo);
    }

    private void refusedSaveNone() {
        holds(UNDO, SAVES);
        On[] calls = {x -> x.join(0), x -> x.remark(0, 11), x -> x.excuse(3), x -> x.bring(0, 3, 1), x -> x.takeBack(1),
            x -> x.setS(-1), x -> x.bake(41), x -> x.claim(3), x -> x.returnLoaves(3)};
        for (int call = 0; call < calls.length; call++) {
            On one = calls[call];
            savesNothing("refused call " + call, Setup::rich, x -> {
                isTrue("is refused", Check.thrownBy(() -> one.answer(x)) != null);
                return 0;
            });
        }
    }

    private void notTextNorStop() {
        holds(UNDO, SAVES);
        OvenDays x = Setup.typed(new OvenDays(), "join 9");
        x.setS(5);
        x.type(';');
        x.undo();
        is("the text stays", x.type(' '), 8);
        is("and can be run", x.runCommands(), 1);
        is("a run that stops", x.runCommands(), 0);
        is("stop", x.stop(), 3);
        x.undo();
        is("the stop stays", x.stop(), 3);
        x.undo();
        is("the stop stays, though there was no run", x.stop(), 3);
        is("no households", x.whole(0), 0);
        is("the text is as long as before", x.clearCommands(), 8);
    }

    private void stateFromBefore() {
        holds(UNDO, "The saved state is the one from before the call.");
        OvenDays x = new OvenDays();
        x.setS(10);
        x.setS(20);
        x.setS(30);
        x.undo();
        is("before the third", x.whole(13), 20);
        x.undo();
        is("before the second", x.whole(13), 10);
        x.undo();
        is("before the first", x.whole(13), 1);
        refusedHere("nothing before it", STATE, x, OvenDays::undo);
        OvenDays y = new OvenDays();
        Setup.run(y, "join 1;join 2;");
        y.undo();
        is("before a run", y.whole(0), 0);
    }

    private void latestFour() {
        holds(UNDO, "The stack keeps the latest 4 saved states and drops older ones.");
        for (int calls = 0; calls <= 9; calls++) {
            OvenDays x = new OvenDays();
            for (int call = 1; call <= calls; call++) {
                x.setS(100 + call);
            }
            int kept = Math.min(4, calls);
            for (int left = kept - 1; left >= 0; left--) {
                is("states left after " + calls, x.undo(), left);
                int due = calls - (kept - left);
                is("s of " + calls, x.whole(13), due == 0 ? 1 : 100 + due);
            }
            refusedHere("no more after " + calls, STATE, x, OvenDays::undo);
        }
        OvenDays mixed = new OvenDays();
        for (int call = 1; call <= 5; call++) {
            mixed.setS(call * 10);
        }
        is("three left", mixed.undo(), 3);
        mixed.setS(99);
        is("full again, three left", mixed.undo(), 3);
        is("s", mixed.whole(13), 40);
        mixed.setS(97);
        mixed.setS(98);
        is("full, and one dropped", mixed.undo(), 3);
        is("two", mixed.undo(), 2);
        is("one", mixed.undo(), 1);
        is("none", mixed.undo(), 0);
        is("the oldest that is kept", mixed.whole(13), 20);
    }

    // ---- exceptions

    private void changesNothing() {
        holds(EXCEPTIONS, "A call that throws an exception changes nothing.");
        refused("join", STATE, Setup::rich, x -> x.join(7));
        refused("remark", STATE, Setup::rich, x -> x.remark(0, 3));
        refused("excuse", INDEX, Setup::rich, x -> x.excuse(3));
        refused("bring", ARGUMENT, Setup::rich, x -> x.bring(0, 0, 13));
        refused("takeBack", INDEX, Setup::rich, x -> x.takeBack(1));
        refused("setS", ARGUMENT, Setup::rich, x -> x.setS(-1));
        refused("bake", ARGUMENT, Setup::rich, x -> x.bake(41));
        refused("claim", INDEX, Setup::rich, x -> x.claim(3));
        refused("returnLoaves", INDEX, Setup::rich, x -> x.returnLoaves(3));
        refused("household", INDEX, Setup::rich, x -> x.household(3, 0));
        refused("due", INDEX, Setup::rich, x -> x.due(3));
        refused("balance", ARGUMENT, Setup::rich, x -> x.balance(0, 3));
        refused("batch", ARGUMENT, Setup::rich, x -> x.batch(0, 4));
        refused("loaf", INDEX, Setup::rich, x -> x.loaf(7, 0));
        refused("load", ARGUMENT, Setup::rich, x -> x.load(0, 5));
        refused("whole", ARGUMENT, Setup::rich, x -> x.whole(14));
        refused("doughWith", ARGUMENT, Setup::rich, x -> x.doughWith(41));
        refused("freeMark", ARGUMENT, Setup::rich, x -> x.freeMark(17));
        refused("type", ARGUMENT, Setup::rich, x -> x.type(128));
        refused("undo", STATE, OvenDays::new, OvenDays::undo);
    }

    private void firstListed() {
        holds(EXCEPTIONS, "If several exceptions of a method apply, the one that is listed first is thrown.");
        refused("join: mark, eight", ARGUMENT, () -> Setup.many(8), x -> x.join(65_536));
        refused("remark: household, mark", INDEX, Setup::rich, x -> x.remark(3, 0));
        refused("remark: household, other mark", INDEX, Setup::rich, x -> x.remark(3, 7));
        refused("bring: household, kind, loaves, twenty", INDEX, UndoBoundaries::twenty, x -> x.bring(1, 3, 13));
        refused("bring: household, twenty", INDEX, UndoBoundaries::twenty, x -> x.bring(1, 0, 1));
        refused("bring: kind, twenty", ARGUMENT, UndoBoundaries::twenty, x -> x.bring(0, 3, 1));
        refused("bring: loaves, twenty", ARGUMENT, UndoBoundaries::twenty, x -> x.bring(0, 0, 13));
        refused("bring: twenty", STATE, UndoBoundaries::twenty, x -> x.bring(0, 0, 1));
        refused("bake: wood, no batch", ARGUMENT, () -> Setup.with(1), x -> x.bake(0));
        refused("household: household, what", INDEX, Setup::rich, x -> x.household(3, 8));
        refused("balance: household, kind", INDEX, Setup::rich, x -> x.balance(3, 3));
        refused("loaf: loaf, what", INDEX, Setup::rich, x -> x.loaf(7, 7));
        refused("type: value, full", ARGUMENT, () -> Setup.typed(new OvenDays(), " ".repeat(150)), x -> x.type(-1));
    }

    private static OvenDays twenty() {
        OvenDays x = Setup.with(1);
        Setup.bring(x, 0, 240);
        return x;
    }

    private void noneOnlyWithoutException() {
        holds(EXCEPTIONS, "NONE is returned only if no exception applies.");
        onlyAnswers("batch: not so many", Setup::rich, x -> x.batch(1, 3), NONE);
        refused("batch: not so many, what", ARGUMENT, Setup::rich, x -> x.batch(1, 4));
        refused("batch: none, negative", ARGUMENT, OvenDays::new, x -> x.batch(-1, 3));
        onlyAnswers("load: not so many", Setup::rich, x -> x.load(1, 4), NONE);
        refused("load: not so many, what", ARGUMENT, Setup::rich, x -> x.load(1, 5));
        refused("load: none, negative", ARGUMENT, OvenDays::new, x -> x.load(-1, 4));
        onlyAnswers("freeMark: none", () -> Setup.with(65_535), x -> x.freeMark(16), NONE);
        refused("freeMark: none, grooves", ARGUMENT, () -> Setup.with(65_535), x -> x.freeMark(17));
    }

    private void constants() {
        holds(EXCEPTIONS, "- `NONE = -1`: Returned where there is no such value.");
        is("NONE", OvenDays.NONE, -1);
        is("no next one", new OvenDays().nextForWood(), OvenDays.NONE);
        is("no batch", new OvenDays().batch(0, 0), OvenDays.NONE);
        is("no load", new OvenDays().load(0, 0), OvenDays.NONE);
        is("no best wood", new OvenDays().bestWood(), OvenDays.NONE);
        is("no holder", Setup.rich().loaf(0, 5), OvenDays.NONE);
        holds(EXCEPTIONS, "- `SHELF = 8`: The shelf as a holder.");
        is("SHELF", OvenDays.SHELF, 8);
        is("on the shelf", Setup.rich().loaf(5, 5), OvenDays.SHELF);
    }

    // ---- promise 28

    private void undo() {
        holds("Promise 28", "Restores the latest saved state and removes it from the undo stack.");
        OvenDays x = new OvenDays();
        x.join(1);
        x.join(2);
        x.undo();
        is("the latest one", x.whole(0), 1);
        x.undo();
        is("the one below", x.whole(0), 0);
        OvenDays rich = Setup.rich();
        long before = rich.digest();
        rich.bake(40);
        rich.undo();
        is("all of a day", rich.digest(), before);
        onlyAnswers("a state more and less", Setup::rich, y -> y.setS(9) * 0 + y.undo(), 3);
        holds("Promise 28", "Returns the number of states that are left on the stack.");
        OvenDays full = Setup.many(8);
        for (int left = 3; left >= 0; left--) {
            is("of a full stack", full.undo(), left);
            is("households", full.whole(0), 4 + left);
        }
        is("of one", Setup.with(1).undo(), 0);
        is("of three", Setup.with(1, 2, 4).undo(), 2);
        is("of four", Setup.with(1, 2, 4, 8).undo(), 3);
        is("of five calls", Setup.with(1, 2, 4, 8, 16).undo(), 3);
        holds("Promise 28", "Throws `IllegalStateException` if the stack is empty");
        refused("at first", STATE, OvenDays::new, OvenDays::undo);
        refused("after the only one", STATE, () -> {
            OvenDays y = Setup.with(1);
            y.undo();
            return y;
        }, OvenDays::undo);
        refused("after four of five", STATE, () -> {
            OvenDays y = Setup.with(1, 2, 4, 8, 16);
            for (int state = 0; state < 4; state++) {
                y.undo();
            }
            return y;
        }, OvenDays::undo);
        is("one is left", Setup.with(1).undo(), 0);
    }

    // ---- promise 29

    private static List<Long> list(long... values) {
        List<Long> list = new ArrayList<>();
        for (long value : values) {
            list.add(value);
        }
        return list;
    }

    /** Loaf 0 of household 0 has lost groove 2 and is on the shelf; a batch waits, and half a command is typed. */
    private static OvenDays small() {
        OvenDays x = Setup.with(7, 11);
        x.bring(0, 0, 1);
        x.bring(1, 0, 1);
        x.setS(Setup.seedFor(4, 1, 16, 2, 4, 0));
        x.bake(40);
        x.bring(1, 2, 5);
        x.setS(MAX);
        return Setup.typed(x, "give");
    }

    private void digest() {
        holds("Promise 29", "Returns a hash of the state. It starts with h = 43087. For each of the following values v, in this "
                + "order, h becomes 31 * h + v (long arithmetic, overflow wraps).");
        List<Long> values = list(0, 0, 0, 0, 0, 20, 0, 0, 0, 0, 0, 0, 0, 0, 0, 0, 1, -1, 0);
        // 43087 * 31 to the ninth is below 2 to the 63rd, to the tenth above; each hash has 19 values at least.
        is("of a new one", new OvenDays().digest(), Setup.hashOf(values));
        values.set(16, 0L);
        values.set(0, 1L);
        OvenDays zero = new OvenDays();
        zero.setS(0);
        is("of the least s", zero.digest(), Setup.hashOf(values));
        values.set(16, (long) MAX);
        OvenDays greatest = new OvenDays();
        greatest.setS(MAX);
        is("of the greatest s", greatest.digest(), Setup.hashOf(values));
        savesNothing("digest", Setup::rich, OvenDays::digest);
        onlyAnswers("twice", Setup::rich, x -> x.digest() - x.digest(), 0);
        holds("Promise 29", "Returns the hash.");
        isTrue("one that is below 0 or above an int", new OvenDays().digest() != (int) new OvenDays().digest());
    }

    private void digestValues() {
        holds("Promise 29", VALUES);
        List<Long> values = list(4, 4, 0, 2, 1, 195, 1, 40, 2, 0, 2, 0, 2, 1, 0, 1, MAX);
        values.addAll(list(7, 40, 1, 0, 1, 0, 0, 0, -40, 1, 0, 0));
        values.addAll(list(11, 0, 1, 0, 1, 1, 1, 1, 40, 0, 0, 0));
        values.addAll(list(1, 1, 2, 5, 0));
        values.addAll(list(0, 0, 0, 0, 0, 3, 8, 1, 1, 1, 0, 0, 0, 11, 1, 0));
        values.addAll(list(0, 2, 2, 400, 390, 0));
        is("by hand", small().digest(), Setup.hashOf(values));
        byReading("rich", Setup::rich, 3, 16);
        byReading("eight households", () -> Setup.many(8), 4, 0);
        byReading("twenty batches", UndoBoundaries::twenty, 4, 0);
        byReading("199 loaves", () -> Setup.after(40, 0, 199), 4, 0);
        byReading("200 loaves", () -> Setup.after(40, 0, 200), 4, 0);
        byReading("201 loaves", () -> Setup.after(40, 0, 201), 4, 0);
        byReading("216 loaves, nine loads", () -> Setup.after(40, 0, 216), 4, 0);
        byReading("a full text", () -> Setup.typed(new OvenDays(), " ".repeat(150)), 0, 150);
        byReading("a full text less one", () -> Setup.typed(new OvenDays(), " ".repeat(149)), 0, 149);
        for (int states = 1; states <= 4; states++) {
            int one = states;
            byReading(states + " states", () -> Setup.many(one), states, 0);
        }
        byReading("five states", () -> Setup.many(5), 4, 0);
    }

    private static void byReading(String what, Maker maker, int states, int length) {
        is(what, maker.make().digest(), Setup.digestOf(maker::make, states, length));
    }
}

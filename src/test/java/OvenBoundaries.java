/** "THE OVEN" and "A DAY", and promises 5 to 8. */
final class OvenBoundaries extends Boundaries {
    private static final String OVEN = "THE OVEN";
    private static final String DAY = "A DAY";
    private static final String HOUSEHOLD_SENTENCE = "- `household`: number of a household";
    private static final String INDEX_SENTENCE = "Throws `IndexOutOfBoundsException` if there is no such household";
    private static final String FALL = "For each tick of this kind, the heat then falls by 5 + floor(loaves of the load / 8), "
            + "but not below 20.";
    private static final String PALE = "Then the loaves come out: they are pale if the heat is below the lowest heat of the "
            + "kind minus 30 then, otherwise good.";
    private static final String NO_KIND = "If there is no such kind: if the heat is above the greatest heat of some kind with "
            + "waiting batches, a tick passes without a load, and the heat falls by 5, but not below 20; otherwise the batches "
            + "that wait are dough that is taken home, and wait no longer.";
    private static final int FLAT = 0;
    private static final int BREAD = 1;
    private static final int RUSKS = 2;

    @Override
    void all() {
        numbersAreWhole();
        heatAndRoom();
        loavesOfABatch();
        kinds();
        waitingBatches();
        woodOfADay();
        bringerAndExcuses();
        heatByWood();
        kindThatIsBaked();
        batchesThatGoIn();
        fallOfALoad();
        paleOrGood();
        ticksWithoutALoad();
        dough();
        heatAtTheEnd();
        bakingOrder();
        loavesPutIn();
        bring();
        takeBack();
        setS();
        bake();
    }

    // ---- ovens with odd heats in the evening, from one that has 20 in the morning

    /** Rusks at 90 fall by 8 * 6 to 42. */
    private static OvenDays evening21() {
        return Setup.after(7, RUSKS, 8);
    }

    /** Rusks at 100 fall by 8 * 7 to 44. */
    private static OvenDays evening22() {
        return Setup.after(8, RUSKS, 16);
    }

    /** Dough at 50. */
    private static OvenDays evening25() {
        return Setup.after(3, FLAT, 1);
    }

    /** Rusks at 100 fall by 8 * 6 to 52. */
    private static OvenDays evening26() {
        return Setup.after(8, RUSKS, 8);
    }

    /** Flat bread at 270 falls by 2 * 6 to 258, and dough at 139 follows. */
    private static OvenDays evening69() {
        OvenDays x = evening129();
        Setup.day(x, 1, FLAT, 1);
        return x;
    }

    /** Bread at 180 falls by 5 * 5 to 155. */
    private static OvenDays evening77() {
        return Setup.after(16, BREAD, 1);
    }

    /** Flat bread at 270 falls by 2 * 6 to 258. */
    private static OvenDays evening129() {
        return Setup.after(25, FLAT, 8);
    }

    private static OvenDays evening20() {
        return Setup.with(65535);
    }

    private static void evenings() {
        is("evening 21", evening21().whole(2), 21);
        is("evening 22", evening22().whole(2), 22);
        is("evening 25", evening25().whole(2), 25);
        is("evening 26", evening26().whole(2), 26);
        is("evening 69", evening69().whole(2), 69);
        is("evening 77", evening77().whole(2), 77);
        is("evening 129", evening129().whole(2), 129);
    }

    /** With which heat a batch of one loaf goes in; NONE if it is dough. */
    private static int heatIn(OvenDays x, int wood, int kind) {
        Setup.day(x, wood, kind, 1);
        return x.load(0, 3);
    }

    /** With which heat loaves of one kind come out of the first load. */
    private static int heatOut(OvenDays x, int wood, int kind, int loaves) {
        Setup.day(x, wood, kind, loaves);
        return x.load(0, 4);
    }

    /** How many loaves of a day are pale. */
    private static int paleOf(OvenDays x, int wood, int kind, int loaves) {
        int before = x.whole(8);
        Setup.day(x, wood, kind, loaves);
        int pale = x.whole(8) - before;
        for (int loaf = x.whole(7) - loaves; loaf < x.whole(7); loaf++) {
            is("pale by the loaf", x.loaf(loaf, 3), pale > 0 ? 1 : 0);
        }
        return pale;
    }

    private static void loads(String what, OvenDays x, int... kindsAndHeats) {
        is(what + ": loads", x.whole(12), kindsAndHeats.length / 2);
        for (int load = 0; load < kindsAndHeats.length / 2; load++) {
            is(what + ": kind of load " + load, x.load(load, 0), kindsAndHeats[2 * load]);
            is(what + ": heat of load " + load, x.load(load, 3), kindsAndHeats[2 * load + 1]);
        }
    }

    /** A day with one loaf of each of some kinds. */
    private static OvenDays dayOf(OvenDays x, int wood, int... kinds) {
        for (int kind : kinds) {
            x.bring(0, kind, 1);
        }
        x.bake(wood);
        return x;
    }

    private static OvenDays sizes(int kind, int wood, int... sizes) {
        OvenDays x = evening20();
        for (int size : sizes) {
            x.bring(0, kind, size);
        }
        x.bake(wood);
        return x;
    }

    /** Full loads and rests, as told by batches and loaves of each. */
    private static void loaded(String what, OvenDays x, int... batchesAndLoaves) {
        is(what + ": loads", x.whole(12), batchesAndLoaves.length / 2);
        for (int load = 0; load < batchesAndLoaves.length / 2; load++) {
            is(what + ": batches of load " + load, x.load(load, 1), batchesAndLoaves[2 * load]);
            is(what + ": loaves of load " + load, x.load(load, 2), batchesAndLoaves[2 * load + 1]);
        }
    }

    // ---- the description

    private void numbersAreWhole() {
        holds("Description", "All numbers are whole. floor(a / b) rounds towards minus infinity.");
        evenings();
        // Half of the heat in the evening: 42, 43 (rusks at 91 from 21) and 44.
        is("half of 42", evening21().whole(2), 21);
        OvenDays x = evening21();
        is("heat of rusks at 91", heatOut(x, 7, RUSKS, 8), 43);
        is("half of 43", x.whole(2), 21);
        is("half of 44", evening22().whole(2), 22);
        is("an eighth of 7", heatOut(evening20(), 24, FLAT, 7), 250);
        is("an eighth of 8", heatOut(evening20(), 24, FLAT, 8), 248);
        is("an eighth of 9", heatOut(evening20(), 24, FLAT, 9), 248);
    }

    private void heatAndRoom() {
        holds(OVEN, "The oven has a heat (20 to 400, 20 at first), and room for 24 loaves.");
        OvenDays x = evening20();
        is("at first", x.whole(2), 20);
        Setup.day(x, 1, FLAT, 1);
        is("the least, after a day with dough at 30", x.whole(2), 20);
        is("one below the greatest", heatIn(evening129(), 27, FLAT), 399);
        is("the greatest", heatIn(evening20(), 40, FLAT), 400);
        loaded("one below full", sizes(FLAT, 24, 12, 11), 2, 23);
        loaded("full", sizes(FLAT, 24, 12, 12), 2, 24);
        loaded("one more than full", sizes(FLAT, 40, 12, 12, 1), 2, 24, 1, 1);
        loaded("one more in the last batch", sizes(FLAT, 40, 12, 11, 2), 2, 23, 1, 2);
    }

    private void loavesOfABatch() {
        holds(OVEN, "A batch has a household, a kind, and a number of loaves (1 to 12).");
        range(ARGUMENT, 1, 12, Setup::rich, (x, loaves) -> x.bring(0, 0, loaves), 1, 1, 1, 1);
        OvenDays x = Setup.with(1, 2);
        x.bring(1, 2, 1);
        x.bring(0, 1, 12);
        is("household", x.batch(0, 0), 1);
        is("kind", x.batch(0, 1), 2);
        is("the least number", x.batch(0, 2), 1);
        is("the greatest number", x.batch(1, 2), 12);
    }

    private void kinds() {
        holds(OVEN, "There are three kinds: 0 flat bread, heat from 260 to 400, 2 ticks; 1 bread, heat from 180 to 300, 5 "
                + "ticks; 2 rusks, heat from 90 to 200, 8 ticks.");
        is("flat bread at 259", heatIn(evening129(), 13, FLAT), NONE);
        is("flat bread at 260", heatIn(evening20(), 24, FLAT), 260);
        is("flat bread at 261", heatIn(evening21(), 24, FLAT), 261);
        is("flat bread at 399", heatIn(evening129(), 27, FLAT), 399);
        is("flat bread at 400", heatIn(evening20(), 38, FLAT), 400);
        is("bread at 179", heatIn(evening129(), 5, BREAD), NONE);
        is("bread at 180", heatIn(evening20(), 16, BREAD), 180);
        is("bread at 181", heatIn(evening21(), 16, BREAD), 181);
        is("bread at 299", heatIn(evening129(), 17, BREAD), 299);
        is("bread at 300", heatIn(evening20(), 28, BREAD), 300);
        is("bread at 301", heatIn(evening21(), 28, BREAD), 296);
        is("rusks at 89", heatIn(evening69(), 2, RUSKS), NONE);
        is("rusks at 90", heatIn(evening20(), 7, RUSKS), 90);
        is("rusks at 91", heatIn(evening21(), 7, RUSKS), 91);
        is("rusks at 199", heatIn(evening129(), 7, RUSKS), 199);
        is("rusks at 200", heatIn(evening20(), 18, RUSKS), 200);
        is("rusks at 201", heatIn(evening21(), 18, RUSKS), 196);
        is("2 ticks", heatOut(evening20(), 24, FLAT, 1), 260 - 2 * 5);
        is("5 ticks", heatOut(evening20(), 16, BREAD, 1), 180 - 5 * 5);
        is("8 ticks", heatOut(evening20(), 7, RUSKS, 1), 90 - 8 * 5);
        for (int kind : new int[] {-1, 3, MIN, MAX}) {
            refused("kind " + kind, ARGUMENT, Setup::rich, x -> x.bring(0, kind, 1));
        }
    }

    private static OvenDays waiting(int batches) {
        OvenDays x = Setup.with(1, 2);
        for (int batch = 0; batch < batches; batch++) {
            x.bring(batch % 2, batch % 3, 1 + batch % 12);
        }
        return x;
    }

    private void waitingBatches() {
        holds(OVEN, "At most 20 batches wait for the next day, numbered from 0 in the order in which they were brought.");
        OvenDays x = Setup.with(1, 2);
        is("none", x.whole(3), 0);
        for (int batch = 0; batch < 20; batch++) {
            is("waiting before " + batch, x.whole(3), batch);
            is("number", x.bring(batch % 2, batch % 3, 1 + batch % 12), batch);
        }
        is("full", x.whole(3), 20);
        for (int batch = 0; batch < 20; batch++) {
            is("household of " + batch, x.batch(batch, 0), batch % 2);
            is("kind of " + batch, x.batch(batch, 1), batch % 3);
            is("loaves of " + batch, x.batch(batch, 2), 1 + batch % 12);
        }
        is("one behind the last", x.batch(20, 0), NONE);
        refused("one more", STATE, () -> waiting(20), y -> y.bring(0, 0, 1));
        is("a full day", Setup.run(waiting(20), "bake 1;bring 1 0 5;"), 2);
        OvenDays next = waiting(20);
        next.bake(40);
        is("the first of the next day", next.bring(0, 0, 1), 0);
        is("20 and one more by a text", Setup.run(waiting(19), "bring 0 0 1;bring 0 0 1;"), 1);
    }

    private void woodOfADay() {
        holds(DAY, "A day with some wood (1 to 40), for which a batch waits at least:");
        for (int wood : new int[] {1, 2, 39, 40}) {
            OvenDays x = waiting(1);
            x.bake(wood);
            is("wood", x.whole(4), wood);
            is("days", x.whole(1), 1);
            is("none wait", x.whole(3), 0);
        }
        outside(ARGUMENT, 1, 40, () -> waiting(1), OvenDays::bake);
        refused("no batch waits", STATE, () -> waiting(0), y -> y.bake(20));
        is("two wait", waiting(2).bake(40), 3);
        is("none but a day before", Setup.run(waiting(1), "bake 20;bake 20;"), 1);
    }

    private void bringerAndExcuses() {
        holds(DAY, "(1) The next one to bring wood brings it: its wood increases. Excuses are over.");
        OvenDays x = Setup.with(1, 2, 4);
        x.bring(0, FLAT, 1);
        x.bake(1);
        is("of none excused", x.household(0, 1), 1);
        x.bring(0, FLAT, 1);
        x.excuse(0);
        x.bake(40);
        is("of one excused", x.household(1, 1), 40);
        is("wood of the excused", x.household(0, 1), 1);
        is("its excuse is over", x.household(0, 3), 0);
        OvenDays y = Setup.with(1, 2, 4);
        for (int household = 0; household < 3; household++) {
            y.excuse(household);
        }
        y.bring(2, FLAT, 1);
        y.bake(2);
        is("of all excused", y.household(0, 1), 2);
        for (int household = 0; household < 3; household++) {
            is("excuse of " + household, y.household(household, 3), 0);
        }
        y.bring(2, FLAT, 1);
        y.bake(3);
        is("increases", y.household(0, 1), 5);
        is("no wood of the others", y.household(1, 1) + y.household(2, 1), 0);
    }

    private void heatByWood() {
        holds(DAY, "(2) The heat increases by 10 for each piece of wood, but not above 400.");
        is("20 and 370", heatIn(evening20(), 37, FLAT), 390);
        is("20 and 380", heatIn(evening20(), 38, FLAT), 400);
        is("20 and 390", heatIn(evening20(), 39, FLAT), 400);
        is("20 and 400", heatIn(evening20(), 40, FLAT), 400);
        is("129 and 270", heatIn(evening129(), 27, FLAT), 399);
        is("129 and 280", heatIn(evening129(), 28, FLAT), 400);
        is("21 and 370", heatIn(evening21(), 37, FLAT), 391);
        is("21 and 380", heatIn(evening21(), 38, FLAT), 400);
        OvenDays x = evening20();
        Setup.day(x, 1, FLAT, 1);
        is("20 and 10, halved", x.whole(2), 20);
        Setup.day(x, 3, FLAT, 1);
        is("20 and 30, halved", x.whole(2), 25);
    }

    private void kindThatIsBaked() {
        holds(DAY, "(3) As long as batches wait: of the kinds that have waiting batches and whose heats contain the heat, the "
                + "one with the greatest lowest heat is baked:");
        loads("flat bread and bread at 259", dayOf(evening129(), 13, FLAT, BREAD), BREAD, 259);
        loads("flat bread and bread at 260", dayOf(evening20(), 24, BREAD, FLAT), FLAT, 260, BREAD, 250);
        loads("flat bread and bread at 261", dayOf(evening21(), 24, BREAD, FLAT), FLAT, 261, BREAD, 251);
        loads("flat bread and bread at 300", dayOf(evening20(), 28, BREAD, FLAT), FLAT, 300, BREAD, 290);
        loads("flat bread and bread at 310", dayOf(evening20(), 29, BREAD, FLAT), FLAT, 310, BREAD, 300);
        loads("flat bread and bread at 311", dayOf(evening21(), 29, BREAD, FLAT), FLAT, 311, BREAD, 296);
        loads("bread and rusks at 179", dayOf(evening129(), 5, RUSKS, BREAD), RUSKS, 179);
        loads("bread and rusks at 180", dayOf(evening20(), 16, RUSKS, BREAD), BREAD, 180, RUSKS, 155);
        loads("bread and rusks at 200", dayOf(evening20(), 18, RUSKS, BREAD), BREAD, 200, RUSKS, 175);
        loads("bread and rusks at 201", dayOf(evening21(), 18, RUSKS, BREAD), BREAD, 201, RUSKS, 176);
        loads("all three at 260", dayOf(evening20(), 24, RUSKS, BREAD, FLAT), FLAT, 260, BREAD, 250, RUSKS, 200);
        loads("only kinds that wait count", dayOf(evening20(), 18, RUSKS), RUSKS, 200);
        // 24 flat breads take 2 * 8 of the heat.
        OvenDays once = evening25();
        Setup.day(once, 25, FLAT, 48);
        loads("from 275 to 259", once, FLAT, 275);
        OvenDays twice = evening26();
        Setup.day(twice, 25, FLAT, 48);
        loads("from 276 to 260", twice, FLAT, 276, FLAT, 260);
    }

    private void batchesThatGoIn() {
        holds(DAY, "a load is made of its waiting batches in the baking order, each of which goes in if it fits whole into the "
                + "room that is left (one that does not is passed over).");
        loaded("one loaf", sizes(FLAT, 40, 1), 1, 1);
        loaded("one below the room", sizes(FLAT, 40, 12, 11), 2, 23);
        loaded("as much as the room", sizes(FLAT, 40, 12, 10, 2), 3, 24);
        loaded("one more than the room", sizes(FLAT, 40, 12, 10, 3), 2, 22, 1, 3);
        loaded("passed over", sizes(FLAT, 40, 12, 10, 3, 2), 3, 24, 1, 3);
        loaded("passed over, one below the room", sizes(FLAT, 40, 12, 10, 3, 1), 3, 23, 1, 3);
        loaded("passed over twice", sizes(FLAT, 40, 12, 10, 3, 3, 1, 2, 1), 4, 24, 3, 8);
        loaded("no room is left", sizes(FLAT, 40, 12, 12, 1, 1), 2, 24, 2, 2);
        loaded("twenty of one loaf", sizes(FLAT, 40, 1, 1, 1, 1, 1, 1, 1, 1, 1, 1, 1, 1, 1, 1, 1, 1, 1, 1, 1, 1), 20, 20);
        OvenDays fewer = Setup.after(1, FLAT, 36);
        Setup.day(fewer, 40, FLAT, 5);
        loaded("one batch after a day with three of dough", fewer, 1, 5);
        is("dough of that day alone", fewer.whole(6), 36);
        OvenDays x = evening20();
        x.bring(0, BREAD, 12);
        x.bring(0, FLAT, 12);
        x.bring(0, BREAD, 12);
        x.bring(0, FLAT, 12);
        x.bring(0, BREAD, 1);
        x.bake(28);
        loaded("by kinds", x, 2, 24, 2, 24, 1, 1);
        is("a kind alone in the first load", x.load(0, 0), FLAT);
        is("a kind alone in the second load", x.load(1, 0), BREAD);
    }

    private void fallOfALoad() {
        holds(DAY, FALL);
        int[] loaves = {1, 7, 8, 15, 16, 23, 24};
        int[] flat = {250, 250, 248, 248, 246, 246, 244};
        int[] bread = {155, 155, 150, 150, 145, 145, 140};
        int[] rusks = {50, 50, 42, 42, 34, 34, 26};
        for (int index = 0; index < loaves.length; index++) {
            is("flat bread", heatOut(evening20(), 24, FLAT, loaves[index]), flat[index]);
            is("bread", heatOut(evening20(), 16, BREAD, loaves[index]), bread[index]);
            is("rusks", heatOut(evening20(), 7, RUSKS, loaves[index]), rusks[index]);
        }
        // No kind can fall further: the least heat for a load is 90, and 8 * (5 + 3) leave 26.
        OvenDays x = sizes(RUSKS, 7, 12, 12, 12);
        is("the lowest heat of a load", x.load(0, 4), 26);
        is("too cold for another one", x.whole(6), 12);
        is("in the evening", x.whole(2), 20);
    }

    private void paleOrGood() {
        holds(DAY, PALE);
        is("bread out at 149", paleOf(evening129(), 6, BREAD, 24), 24);
        is("bread out at 150", paleOf(evening20(), 16, BREAD, 8), 0);
        is("bread out at 151", paleOf(evening21(), 16, BREAD, 8), 0);
        is("rusks out at 59", paleOf(evening69(), 3, RUSKS, 1), 1);
        is("rusks out at 60", paleOf(evening20(), 8, RUSKS, 1), 0);
        is("rusks out at 61", paleOf(evening21(), 8, RUSKS, 1), 0);
        is("flat bread out at 244, the lowest", paleOf(evening20(), 24, FLAT, 24), 0);
        // Bread at 220 falls by 40 to 180, and 16 loaves more by 35 to 145.
        OvenDays x = sizes(BREAD, 20, 12, 12, 12, 4);
        is("pale ones of the second load", x.whole(8), 16);
        is("last of the first load", x.loaf(23, 3), 0);
        is("first of the second load", x.loaf(24, 3), 1);
        is("last of the second load", x.loaf(39, 3), 1);
        // 15 loaves fall by 30 to 150.
        is("one loaf less", sizes(BREAD, 20, 12, 12, 12, 3).whole(8), 0);
    }

    private void ticksWithoutALoad() {
        holds(DAY, NO_KIND);
        is("rusks at 200", heatIn(evening20(), 18, RUSKS), 200);
        is("rusks at 201", heatIn(evening21(), 18, RUSKS), 196);
        is("rusks at 205", heatIn(evening25(), 18, RUSKS), 200);
        is("rusks at 206", heatIn(evening26(), 18, RUSKS), 196);
        is("rusks at 210", heatIn(evening20(), 19, RUSKS), 200);
        is("rusks at 400", heatIn(evening20(), 40, RUSKS), 200);
        is("bread at 300", heatIn(evening20(), 28, BREAD), 300);
        is("bread at 301", heatIn(evening21(), 28, BREAD), 296);
        is("bread at 305", heatIn(evening25(), 28, BREAD), 300);
        is("bread at 306", heatIn(evening26(), 28, BREAD), 296);
        is("bread at 400", heatIn(evening20(), 40, BREAD), 300);
        loads("ticks between two loads", dayOf(evening20(), 40, FLAT, RUSKS), FLAT, 400, RUSKS, 200);
        loads("some kind: rusks, while flat bread is too cold", dayOf(evening20(), 23, FLAT, RUSKS), RUSKS, 200);
        loads("one above for rusks, one below for flat bread", dayOf(evening129(), 13, FLAT, RUSKS), RUSKS, 199);
        is("a tick without a load counts for the evening", dayOf(evening21(), 18, RUSKS).whole(2), (196 - 40) / 2);
    }

    private void dough() {
        holds(DAY, NO_KIND);
        OvenDays x = evening69();
        int before = x.whole(6);
        Setup.day(x, 2, RUSKS, 24);
        is("rusks at 89 are dough", x.whole(6) - before, 24);
        is("and wait no longer", x.whole(3), 0);
        is("no loads", x.whole(12), 0);
        is("dough makes the oven no colder", x.whole(2), 44);
        OvenDays flat = dayOf(evening20(), 18, FLAT, RUSKS);
        is("flat bread and rusks at 200: rusks", flat.whole(5), 1);
        is("flat bread and rusks at 200: dough", flat.whole(6), 1);
        OvenDays late = dayOf(evening21(), 18, FLAT, RUSKS);
        is("flat bread and rusks at 201: rusks", late.whole(5) - 8, 1);
        is("flat bread and rusks at 201: dough", late.whole(6), 1);
        // Heats above those of rusks and of bread, which do not wait: no tick passes.
        is("flat bread alone at 250", Setup.after(23, FLAT, 1).whole(2), 125);
        is("flat bread alone at 200", Setup.after(18, FLAT, 1).whole(2), 100);
        is("flat bread alone at 210", Setup.after(19, FLAT, 1).whole(2), 105);
        is("flat bread alone at 259", dayOf(evening129(), 13, FLAT).whole(2), 129);
        is("rusks alone at 210, after two ticks", Setup.after(19, RUSKS, 1).whole(2), 80);
        OvenDays all = evening20();
        for (int batch = 0; batch < 20; batch++) {
            all.bring(0, batch % 3, 12);
        }
        is("twenty batches of dough come out", all.bake(6), 0);
        is("twenty batches of dough", all.whole(6), 240);
        is("none wait", all.whole(3), 0);
        // Bread at 220: 24 loaves leave 180, 24 more leave 140, which is too cold for 12 more.
        OvenDays rest = sizes(BREAD, 20, 12, 12, 12, 12, 12);
        is("dough behind loads", rest.whole(6), 12);
        is("loads before dough", rest.whole(12), 2);
    }

    private void heatAtTheEnd() {
        holds(DAY, "(4) The heat becomes the greater one of 20 and floor(heat / 2).");
        evening("38: rusks at 102 from 22", evening22(), 8, 24, 38, 20);
        evening("39: rusks at 95 from 25", evening25(), 7, 16, 39, 20);
        evening("41: rusks at 97 from 77", evening77(), 2, 16, 41, 20);
        evening("42: rusks at 90", evening20(), 7, 8, 42, 21);
        evening("43: rusks at 91 from 21", evening21(), 7, 8, 43, 21);
        evening("44: rusks at 100", evening20(), 8, 16, 44, 22);
        is("30", Setup.after(1, FLAT, 1).whole(2), 20);
        is("40", Setup.after(2, FLAT, 1).whole(2), 20);
        is("50", Setup.after(3, FLAT, 1).whole(2), 25);
        is("390, the greatest", Setup.after(40, FLAT, 1).whole(2), 195);
    }

    private static void evening(String what, OvenDays x, int wood, int rusks, int out, int due) {
        is(what, heatOut(x, wood, RUSKS, rusks), out);
        is(what + ", in the evening", x.whole(2), due);
    }

    /** Eight households with a batch each, the last one first, and another batch of household 3; only one is not excused. */
    private static OvenDays ordered(int bringer) {
        OvenDays x = Setup.many(8);
        for (int household = 7; household >= 0; household--) {
            x.bring(household, FLAT, 1);
            if (household != bringer) {
                x.excuse(household);
            }
        }
        x.bring(3, FLAT, 2);
        return x;
    }

    private void bakingOrder() {
        holds(DAY, "The baking order begins with the batches of the household that has brought the wood, then those of the "
                + "household with the next greater number, and so on, after the last one household 0; batches of one household "
                + "go by their numbers.");
        // Batch 7 - h is that of household h, batch 8 the second one of household 3.
        order(0, 7, 6, 5, 4, 8, 3, 2, 1, 0);
        order(1, 6, 5, 4, 8, 3, 2, 1, 0, 7);
        order(3, 4, 8, 3, 2, 1, 0, 7, 6, 5);
        order(4, 3, 2, 1, 0, 7, 6, 5, 4, 8);
        order(6, 1, 0, 7, 6, 5, 4, 8, 3, 2);
        order(7, 0, 7, 6, 5, 4, 8, 3, 2, 1);
        OvenDays alone = Setup.with(1);
        alone.bring(0, FLAT, 5);
        alone.bring(0, BREAD, 6);
        is("one alone: first", alone.batch(0, 3), 0);
        is("one alone: second", alone.batch(1, 3), 1);
    }

    private static void order(int bringer, int... batches) {
        OvenDays x = ordered(bringer);
        for (int place = 0; place < batches.length; place++) {
            is("place of batch " + batches[place] + " when " + bringer + " brings", x.batch(batches[place], 3), place);
        }
        int[] owners = new int[10];
        int loaf = 0;
        for (int batch : batches) {
            owners[loaf++] = batch == 8 ? 3 : 7 - batch;
            if (batch == 8) {
                owners[loaf++] = 3;
            }
        }
        x.bake(30);
        for (loaf = 0; loaf < 10; loaf++) {
            is("owner of loaf " + loaf + " when " + bringer + " brings", x.loaf(loaf, 0), owners[loaf]);
        }
    }

    private void loavesPutIn() {
        holds(DAY, "A batch that goes in counts for the loaves that its household has put in.");
        OvenDays x = Setup.with(1, 2);
        x.bring(0, FLAT, 12);
        x.bring(1, RUSKS, 1);
        is("waiting ones do not count", x.whole(5), 0);
        x.bake(7);
        is("dough does not count", x.household(0, 2), 0);
        is("one loaf counts", x.household(1, 2), 1);
        x.bring(0, FLAT, 12);
        x.bring(0, FLAT, 12);
        x.bring(0, FLAT, 1);
        x.bring(1, FLAT, 2);
        x.bake(40);
        is("of more than one load", x.household(0, 2), 25);
        is("more than before", x.household(1, 2), 3);
        is("of all", x.whole(5), 28);
    }

    // ---- promise 5

    private void bring() {
        holds("Promise 5", "Brings a batch for the next day. Undoable.");
        OvenDays x = Setup.rich();
        x.bring(0, 2, 7);
        is("waiting", x.whole(3), 2);
        is("loaves", x.batch(1, 2), 7);
        is("days", x.whole(1), 3);
        undoable("bring", Setup::rich, y -> y.bring(0, 2, 7));
        undoable("bring of the 20th", () -> {
            OvenDays y = waiting(20);
            y.undo();
            return y;
        }, y -> y.bring(0, 2, 7));
        holds("Promise 5", HOUSEHOLD_SENTENCE);
        range(INDEX, 0, 7, () -> Setup.many(8), (y, household) -> y.bring(household, 0, 1), 0, 0, 0, 0);
        holds("Promise 5", "- `kind`: 0 to 2");
        range(ARGUMENT, 0, 2, Setup::rich, (y, kind) -> y.bring(0, kind, 1), 1, 1, 1, 1);
        holds("Promise 5", "- `loaves`: 1 to 12");
        range(ARGUMENT, 1, 12, Setup::rich, (y, loaves) -> y.bring(2, 2, loaves), 1, 1, 1, 1);
        holds("Promise 5", "Returns the number of the batch.");
        is("the first", waiting(0).bring(0, 0, 1), 0);
        is("the second", waiting(1).bring(0, 0, 1), 1);
        is("the last but one", waiting(18).bring(0, 0, 1), 18);
        is("the last", waiting(19).bring(0, 0, 1), 19);
        bringRefuses();
    }

    private void bringRefuses() {
        holds("Promise 5", INDEX_SENTENCE);
        outside(INDEX, 0, 2, Setup::rich, (x, household) -> x.bring(household, 0, 1));
        outside(INDEX, 0, 2, Setup::rich, (x, household) -> x.bring(household, 3, 13));
        outside(INDEX, 0, 1, () -> waiting(20), (x, household) -> x.bring(household, 0, 1));
        refused("of none", INDEX, OvenDays::new, x -> x.bring(0, 0, 1));
        holds("Promise 5", "Throws `IllegalArgumentException` if kind or loaves is out of range");
        outside(ARGUMENT, 0, 2, Setup::rich, (x, kind) -> x.bring(2, kind, 1));
        outside(ARGUMENT, 0, 2, () -> waiting(20), (x, kind) -> x.bring(0, kind, 12));
        outside(ARGUMENT, 1, 12, Setup::rich, (x, loaves) -> x.bring(2, 0, loaves));
        outside(ARGUMENT, 1, 12, () -> waiting(20), (x, loaves) -> x.bring(0, 2, loaves));
        holds("Promise 5", "Throws `IllegalStateException` if 20 batches wait");
        is("19 wait", waiting(19).bring(1, 2, 12), 19);
        refused("20 wait", STATE, () -> waiting(20), x -> x.bring(1, 2, 12));
        OvenDays x = waiting(20);
        x.takeBack(0);
        is("19 wait again", x.bring(1, 2, 12), 19);
    }

    // ---- promise 6

    private void takeBack() {
        holds("Promise 6", "Takes a waiting batch back; the numbers of those behind it decrease by 1. Undoable.");
        takenBack(0);
        takenBack(1);
        takenBack(18);
        takenBack(19);
        OvenDays undone = waiting(3);
        undone.takeBack(0);
        undone.undo();
        for (int batch = 0; batch < 3; batch++) {
            is("household after an undo", undone.batch(batch, 0), batch % 2);
            is("kind after an undo", undone.batch(batch, 1), batch);
            is("loaves after an undo", undone.batch(batch, 2), 1 + batch);
        }
        OvenDays one = waiting(1);
        one.takeBack(0);
        is("none is left", one.whole(3), 0);
        is("none behind", one.batch(0, 2), NONE);
        undoable("takeBack of the only one", () -> waiting(1), x -> x.takeBack(0));
        undoable("takeBack", Setup::rich, x -> x.takeBack(0));
        for (int batch = 0; batch < 3; batch++) {
            int taken = batch;
            undoable("takeBack of " + batch, OvenBoundaries::threeWait, x -> x.takeBack(taken));
        }
        holds("Promise 6", "- `batch`: number of a waiting batch");
        range(INDEX, 0, 19, () -> waiting(20), OvenDays::takeBack, 1, 2, 7, 8);
        range(INDEX, 0, 1, () -> waiting(2), (x, batch) -> x.takeBack(batch), 1, 2, 1, 2);
        holds("Promise 6", "Returns its loaves.");
        OvenDays x = Setup.with(1);
        x.bring(0, 0, 1);
        x.bring(0, 0, 12);
        is("the most", x.takeBack(1), 12);
        is("the fewest", x.takeBack(0), 1);
        holds("Promise 6", "Throws `IndexOutOfBoundsException` if there is no such batch");
        outside(INDEX, 0, 0, Setup::rich, OvenDays::takeBack);
        refused("none waits", INDEX, () -> waiting(0), y -> y.takeBack(0));
        refused("one more than waits", INDEX, () -> waiting(3), y -> y.takeBack(3));
        is("the last that waits", waiting(3).takeBack(2), 3);
    }

    /** Three batches, and room for a state. */
    private static OvenDays threeWait() {
        OvenDays x = waiting(4);
        x.undo();
        return x;
    }

    private static void takenBack(int batch) {
        OvenDays x = waiting(20);
        x.takeBack(batch);
        is("waiting", x.whole(3), 19);
        for (int place = 0; place < 19; place++) {
            int was = place < batch ? place : place + 1;
            is("household behind " + batch, x.batch(place, 0), was % 2);
            is("kind behind " + batch, x.batch(place, 1), was % 3);
            is("loaves behind " + batch, x.batch(place, 2), 1 + was % 12);
        }
        is("none at the end", x.batch(19, 0), NONE);
    }

    // ---- promise 7

    private void setS() {
        holds("Promise 7", "Sets s. Undoable.");
        OvenDays x = Setup.rich();
        x.setS(123_456_789);
        is("s", x.whole(13), 123_456_789);
        undoable("setS", () -> Setup.with(1), y -> y.setS(2));
        OvenDays same = Setup.with(1);
        same.setS(1);
        is("the same s saves a state too", same.undo(), 1);
        holds("Promise 7", "- `value`: 0 to 2147483647");
        range(ARGUMENT, 0, MAX, OvenDays::new, OvenDays::setS, 1, 1, 1, 1);
        for (int value : new int[] {0, 1, MAX - 1, MAX}) {
            OvenDays y = new OvenDays();
            y.setS(value);
            is("s", y.whole(13), value);
        }
        holds("Promise 7", "Returns the previous s.");
        OvenDays y = new OvenDays();
        is("of a new one", y.setS(MAX), 1);
        is("the greatest", y.setS(0), MAX);
        is("the least", y.setS(0), 0);
        is("the least again", y.setS(7), 0);
        holds("Promise 7", "Throws `IllegalArgumentException` if value is negative");
        refused("one below", ARGUMENT, Setup::rich, z -> z.setS(-1));
        refused("the least int", ARGUMENT, Setup::rich, z -> z.setS(MIN));
        refused("the least int but one", ARGUMENT, Setup::rich, z -> z.setS(MIN + 1));
        is("0 is not negative", Setup.with(1).setS(0), 1);
    }

    // ---- promise 8

    private static OvenDays flatAndRusks() {
        OvenDays x = Setup.with(1);
        x.bring(0, FLAT, 12);
        x.bring(0, RUSKS, 1);
        return x;
    }

    private void bake() {
        holds("Promise 8", "Has a day. Undoable.");
        OvenDays x = flatAndRusks();
        x.bake(40);
        is("days", x.whole(1), 1);
        is("waiting", x.whole(3), 0);
        undoable("bake", Setup::rich, y -> y.bake(40));
        undoable("bake of dough", OvenBoundaries::flatAndRusks, y -> y.bake(1));
        undoable("bake of pale ones", OvenBoundaries::flatAndRusks, y -> y.bake(7));
        undoable("bake of three batches", OvenBoundaries::threeWait, y -> y.bake(40));
        undoable("bake, and batches of the next day", OvenBoundaries::threeWait, y -> Setup.run(y, "bake 9;bring 1 2 9;")
                + y.clearCommands());
        undoable("bake of more than 200 loaves", () -> {
            OvenDays y = great();
            y.undo();
            return y;
        }, y -> y.bake(40));
        holds("Promise 8", "- `wood`: 1 to 40");
        range(ARGUMENT, 1, 40, OvenBoundaries::flatAndRusks, OvenDays::bake, 0, 0, 13, 13);
        holds("Promise 8", "Returns the number of loaves that came out.");
        is("none", flatAndRusks().bake(6), 0);
        is("one", flatAndRusks().bake(7), 1);
        is("all", flatAndRusks().bake(24), 13);
        is("as many as can be", great().bake(40), 240);
        OvenDays next = flatAndRusks();
        next.bake(24);
        next.bring(0, FLAT, 2);
        is("two of the next day", next.bake(40), 2);
        next.bring(0, FLAT, 1);
        is("none of the day after that", next.bake(1), 0);
        holds("Promise 8", "Throws `IllegalArgumentException` if wood is out of range");
        outside(ARGUMENT, 1, 40, Setup::rich, OvenDays::bake);
        outside(ARGUMENT, 1, 40, () -> waiting(0), OvenDays::bake);
        holds("Promise 8", "Throws `IllegalStateException` if no batch waits");
        is("one waits", waiting(1).bake(40), 1);
        refused("none waits", STATE, () -> waiting(0), y -> y.bake(40));
        refused("none waits any more", STATE, () -> {
            OvenDays y = waiting(1);
            y.takeBack(0);
            return y;
        }, y -> y.bake(1));
        refused("none waits after a day", STATE, () -> {
            OvenDays y = waiting(1);
            y.bake(40);
            return y;
        }, y -> y.bake(1));
        refused("no households", STATE, OvenDays::new, y -> y.bake(1));
    }

    /** Flat bread in 7 loads from 400 to 288, bread to 248, and rusks from 200 to 200 - 64 and once more. */
    private static OvenDays great() {
        OvenDays x = Setup.with(1);
        for (int batch = 0; batch < 20; batch++) {
            x.bring(0, batch < 14 ? FLAT : batch < 16 ? BREAD : RUSKS, 12);
        }
        return x;
    }
}

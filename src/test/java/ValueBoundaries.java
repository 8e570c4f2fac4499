/** Promises 12 and 15 to 19. */
final class ValueBoundaries extends Boundaries {
    private static final String HOUSEHOLD_SENTENCE = "- `household`: number of a household";
    private static final String INDEX_SENTENCE = "Throws `IndexOutOfBoundsException` if there is no such household";
    private static final String WHAT_SENTENCE = "Throws `IllegalArgumentException` if what is out of range";
    private static final String VALUE_SENTENCE = "Returns that value.";
    private static final String HOUSEHOLD_VALUES = "- `what`: 0 mark, 1 wood, 2 loaves, 3 1 if it is excused or 0 if not, 4 "
            + "number of kept loaves that it owns, 5 number of those that it holds, 6 number of those that it owns and holds, "
            + "7 number of its waiting batches";
    private static final String LOAF_VALUES = "- `what`: 0 owner, 1 kind, 2 day (0 for the first one), 3 1 if it is pale or 0 "
            + "if it is good, 4 print, 5 holder, 6 number of its grooves that were lost when it came out";
    private static final String WHOLE_VALUES = "- `what`: 0 households, 1 days so far, 2 heat, 3 waiting batches, 4 wood, 5 "
            + "loaves put in so far, 6 loaves taken home as dough so far, 7 loaves that came out so far, 8 pale ones of these, "
            + "9 kept loaves, 10 kept loaves on the shelf, 11 kept loaves held by other households than their owners, 12 loads "
            + "of the latest day, 13 s";
    private static final int FLAT = 0;
    private static final int BREAD = 1;
    private static final int RUSKS = 2;

    @Override
    void all() {
        household();
        householdValues();
        keptByHouseholds();
        balance();
        batch();
        loaf();
        loafValues();
        keptLoaves();
        load();
        whole();
        wholeCounts();
        wholeKept();
    }

    private static void values(String what, int[] due, OnNumber value, OvenDays x) {
        for (int index = 0; index < due.length; index++) {
            is(what + ": value " + index, value.answer(x, index), due[index]);
        }
    }

    // ---- promise 12

    /** Household 0 owns loaves 0 (given away), 4 (with 2) and 5 (on the shelf), 1 owns 1, 2 and 6, and 2 owns 3. */
    private void household() {
        holds("Promise 12", "Returns a value of a household.");
        int[][] due = {{7, 60, 3, 1, 3, 0, 0, 0}, {11, 30, 3, 1, 3, 3, 3, 0}, {3, 0, 1, 0, 1, 2, 1, 1}};
        for (int household = 0; household < 3; household++) {
            int one = household;
            values("household " + household, due[household], (x, what) -> x.household(one, what), Setup.rich());
        }
        savesNothing("household", Setup::rich, x -> x.household(0, 4));
        onlyAnswers("household", Setup::rich, x -> x.household(2, 5), 2);
        holds("Promise 12", HOUSEHOLD_SENTENCE);
        range(INDEX, 0, 7, () -> Setup.many(8), (x, household) -> x.household(household, 0), 1, 2, 64, 128);
        range(INDEX, 0, 2, Setup::rich, (x, household) -> x.household(household, 7), 0, 0, 0, 1);
        holds("Promise 12", VALUE_SENTENCE);
        is("the greatest mark", Setup.with(65535).household(0, 0), 65535);
        is("the least mark", Setup.with(1).household(0, 0), 1);
        holds("Promise 12", INDEX_SENTENCE);
        outside(INDEX, 0, 2, Setup::rich, (x, household) -> x.household(household, 7));
        outside(INDEX, 0, 2, Setup::rich, (x, household) -> x.household(household, 8));
        outside(INDEX, 0, 2, Setup::rich, (x, household) -> x.household(household, -1));
        refused("of none", INDEX, OvenDays::new, x -> x.household(0, 0));
        refused("of eight", INDEX, () -> Setup.many(8), x -> x.household(8, 0));
        holds("Promise 12", WHAT_SENTENCE);
        outside(ARGUMENT, 0, 7, Setup::rich, (x, what) -> x.household(2, what));
    }

    private void householdValues() {
        holds("Promise 12", HOUSEHOLD_VALUES);
        range(ARGUMENT, 0, 7, Setup::rich, (x, what) -> x.household(0, what), 7, 60, 0, 0);
        range(ARGUMENT, 0, 7, Setup::rich, (x, what) -> x.household(2, what), 3, 0, 1, 1);
        OvenDays x = Setup.with(1, 2);
        is("not excused", x.household(0, 3), 0);
        x.excuse(0);
        x.excuse(0);
        is("excused, twice", x.household(0, 3), 1);
        is("the other one is not", x.household(1, 3), 0);
        OvenDays y = Setup.with(1, 2);
        for (int batch = 0; batch < 20; batch++) {
            is("waiting", y.household(0, 7), batch);
            y.bring(0, FLAT, 12);
        }
        is("as many as can wait", y.household(0, 7), 20);
        is("none of the other one", y.household(1, 7), 0);
        y.takeBack(19);
        is("one less", y.household(0, 7), 19);
        y.bake(40);
        is("none after a day", y.household(0, 7), 0);
        is("loaves", y.household(0, 2), 216);
        is("wood", y.household(0, 1), 40);
    }

    /** All that came out are of household 0, with a mark of its own. */
    private static OvenDays cameOut(int loaves) {
        return Setup.after(40, FLAT, loaves);
    }

    private void keptByHouseholds() {
        holds("Promise 12", HOUSEHOLD_VALUES);
        int[][] keptOf = {{1, 1}, {199, 199}, {200, 200}, {201, 200}, {216, 200}};
        for (int[] one : keptOf) {
            for (int what = 4; what <= 6; what++) {
                is("value " + what + " of " + one[0], cameOut(one[0]).household(0, what), one[1]);
            }
            is("put in of " + one[0], cameOut(one[0]).household(0, 2), one[0]);
        }
        is("none", Setup.with(1).household(0, 4), 0);
        // Household 1 has the first loaf; 199 of household 0 leave it, 200 drop it.
        OvenDays last = firstOfAnother(199);
        values("the last kept one", new int[] {2, 0, 1, 0, 1, 1, 1, 0}, (x, what) -> x.household(1, what), last);
        OvenDays dropped = firstOfAnother(200);
        values("dropped", new int[] {2, 0, 1, 0, 0, 0, 0, 0}, (x, what) -> x.household(1, what), dropped);
    }

    private static OvenDays firstOfAnother(int loaves) {
        OvenDays x = Setup.with(1, 2);
        x.bring(1, FLAT, 1);
        x.setS(Setup.seedFor(4, 0));
        x.bake(40);
        x.excuse(1);
        Setup.day(x, 40, FLAT, loaves);
        return x;
    }

    // ---- promise 15

    private void balance() {
        holds("Promise 15", "Returns the balance of a household.");
        int[][] due = {{3, 0, 0}, {0, 0, 0}, {-1, 0, 0}};
        for (int household = 0; household < 3; household++) {
            int one = household;
            values("balance " + household, due[household], (x, kind) -> x.balance(one, kind), Setup.rich());
        }
        savesNothing("balance", Setup::rich, x -> x.balance(0, 0));
        holds("Promise 15", HOUSEHOLD_SENTENCE);
        range(INDEX, 0, 2, Setup::rich, (x, household) -> x.balance(household, 0), 3, 0, 0, -1);
        range(INDEX, 0, 7, () -> Setup.many(8), (x, household) -> x.balance(household, 2), 0, 0, 0, 0);
        holds("Promise 15", "- `kind`: 0 to 2");
        range(ARGUMENT, 0, 2, Setup::rich, (x, kind) -> x.balance(2, kind), -1, 0, 0, 0);
        range(ARGUMENT, 0, 2, ValueBoundaries::shelfOfKinds, (x, kind) -> x.balance(0, kind), 0, 1, 1, 1);
        holds("Promise 15", "Returns the balance.");
        onlyAnswers("above 0", Setup::rich, x -> x.balance(0, 0), 3);
        onlyAnswers("0", Setup::rich, x -> x.balance(1, 0), 0);
        onlyAnswers("below 0", Setup::rich, x -> x.balance(2, 0), -1);
        holds("Promise 15", INDEX_SENTENCE);
        outside(INDEX, 0, 2, Setup::rich, (x, household) -> x.balance(household, 0));
        outside(INDEX, 0, 2, Setup::rich, (x, household) -> x.balance(household, 3));
        refused("of none", INDEX, OvenDays::new, x -> x.balance(0, 0));
        holds("Promise 15", "Throws `IllegalArgumentException` if kind is out of range");
        outside(ARGUMENT, 0, 2, Setup::rich, (x, kind) -> x.balance(0, kind));
    }

    /** Of household 0 bread and rusks are on the shelf, and it holds its flat bread. */
    private static OvenDays shelfOfKinds() {
        OvenDays x = Setup.with(7, 11);
        for (int kind = 0; kind < 3; kind++) {
            x.bring(0, kind, 1);
        }
        x.bring(1, RUSKS, 1);
        x.setS(Setup.seedFor(4, 0, 4, 1, 16, 2, 4, 1, 16, 2, 4, 0));
        x.bake(40);
        return x;
    }

    // ---- promise 16

    private static OvenDays waiting(int batches) {
        OvenDays x = Setup.with(1, 2);
        for (int batch = 0; batch < batches; batch++) {
            x.bring(1 - batch % 2, batch % 3, 1 + batch % 12);
        }
        return x;
    }

    private void batch() {
        holds("Promise 16", "Returns a value of a waiting batch.");
        // The batches of household 0 have odd numbers, and it brings the wood.
        values("batch 0", new int[] {1, 0, 1, 10}, (x, what) -> x.batch(0, what), waiting(20));
        values("batch 1", new int[] {0, 1, 2, 0}, (x, what) -> x.batch(1, what), waiting(20));
        values("batch 19", new int[] {0, 1, 8, 9}, (x, what) -> x.batch(19, what), waiting(20));
        values("batch 18", new int[] {1, 0, 7, 19}, (x, what) -> x.batch(18, what), waiting(20));
        savesNothing("batch", Setup::rich, x -> x.batch(0, 3));
        holds("Promise 16", "- `batch`: 0 or more");
        is("the least", waiting(1).batch(0, 2), 1);
        onlyAnswers("the greatest of all numbers", () -> waiting(20), x -> x.batch(MAX, 2), NONE);
        onlyAnswers("the greatest but one", () -> waiting(20), x -> x.batch(MAX - 1, 3), NONE);
        outside(ARGUMENT, 0, MAX, () -> waiting(20), (x, batch) -> x.batch(batch, 2));
        holds("Promise 16", "- `what`: 0 household, 1 kind, 2 loaves, 3 its place in the baking order of the next day, from 0");
        range(ARGUMENT, 0, 3, () -> waiting(20), (x, what) -> x.batch(19, what), 0, 1, 8, 9);
        is("the first place", waiting(2).batch(1, 3), 0);
        is("the last place", waiting(2).batch(0, 3), 1);
        OvenDays x = waiting(2);
        x.excuse(0);
        is("the first place of the next day", x.batch(0, 3), 0);
        x.excuse(1);
        is("the first place when all are excused", x.batch(1, 3), 0);
        batchReturns();
    }

    private void batchReturns() {
        holds("Promise 16", "Returns that value; NONE if not so many wait.");
        for (int what = 0; what <= 3; what++) {
            int one = what;
            onlyAnswers("none waits", () -> waiting(0), x -> x.batch(0, one), NONE);
            onlyAnswers("one behind one", () -> waiting(1), x -> x.batch(1, one), NONE);
            onlyAnswers("one behind twenty", () -> waiting(20), x -> x.batch(20, one), NONE);
            isTrue("the only one", waiting(1).batch(0, what) != NONE);
            isTrue("the last of twenty", waiting(20).batch(19, what) != NONE);
        }
        OvenDays taken = waiting(20);
        taken.takeBack(0);
        is("the twentieth is taken back", taken.batch(19, 0), NONE);
        is("the one before", taken.batch(18, 2), 8);
        taken.bake(1);
        is("none waits after a day", taken.batch(0, 0), NONE);
        is("without households", new OvenDays().batch(0, 3), NONE);
        holds("Promise 16", "Throws `IllegalArgumentException` if batch is negative, or what is out of range");
        refused("-1", ARGUMENT, Setup::rich, x -> x.batch(-1, 0));
        refused("the least int", ARGUMENT, Setup::rich, x -> x.batch(MIN, 0));
        refused("-1, where none waits", ARGUMENT, OvenDays::new, x -> x.batch(-1, 0));
        outside(ARGUMENT, 0, 3, Setup::rich, (x, what) -> x.batch(0, what));
        outside(ARGUMENT, 0, 3, Setup::rich, (x, what) -> x.batch(1, what));
        outside(ARGUMENT, 0, 3, OvenDays::new, (x, what) -> x.batch(MAX, what));
    }

    // ---- promise 17

    private void loaf() {
        holds("Promise 17", "Returns a value of a kept loaf.");
        int[][] due = {{0, 0, 0, 0, 3, -1, 1}, {1, 0, 0, 0, 11, 1, 0}, {1, 0, 1, 0, 11, 1, 0}, {2, 0, 1, 0, 3, 2, 0},
            {0, 0, 1, 0, 3, 2, 1}, {0, 0, 2, 0, 3, 8, 1}, {1, 0, 2, 0, 11, 1, 0}};
        for (int loaf = 0; loaf < due.length; loaf++) {
            int one = loaf;
            values("loaf " + loaf, due[loaf], (x, what) -> x.loaf(one, what), Setup.rich());
        }
        savesNothing("loaf", Setup::rich, x -> x.loaf(0, 4));
        onlyAnswers("loaf", Setup::rich, x -> x.loaf(6, 4), 11);
        holds("Promise 17", "- `loaf`: number of a loaf");
        range(INDEX, 0, 6, Setup::rich, (x, loaf) -> x.loaf(loaf, 0), 0, 1, 0, 1);
        range(INDEX, 0, 198, () -> cameOut(199), (x, loaf) -> x.loaf(loaf, 5), 0, 0, 0, 0);
        holds("Promise 17", VALUE_SENTENCE);
        is("the first", Setup.rich().loaf(0, 4), 3);
        is("the last", Setup.rich().loaf(6, 2), 2);
    }

    private void loafValues() {
        holds("Promise 17", LOAF_VALUES);
        range(ARGUMENT, 0, 6, Setup::rich, (x, what) -> x.loaf(4, what), 0, 0, 2, 1);
        range(ARGUMENT, 0, 6, Setup::rich, (x, what) -> x.loaf(5, what), 0, 0, 8, 1);
        is("the first day", Setup.rich().loaf(1, 2), 0);
        is("the second day", Setup.rich().loaf(2, 2), 1);
        is("good: bread out at 150", Setup.after(16, BREAD, 8).loaf(0, 3), 0);
        is("pale: bread out at 145", Setup.after(16, BREAD, 16).loaf(0, 3), 1);
        is("kind 2", Setup.after(7, RUSKS, 1).loaf(0, 1), 2);
        OvenDays x = Setup.rich();
        x.remark(0, 96);
        is("the print stays", x.loaf(5, 4), 3);
        is("its lost grooves stay", x.loaf(5, 6), 1);
        is("none was lost", x.loaf(6, 6), 0);
        holds("Promise 17", WHAT_SENTENCE);
        outside(ARGUMENT, 0, 6, Setup::rich, (y, what) -> y.loaf(0, what));
        outside(ARGUMENT, 0, 6, () -> cameOut(201), (y, what) -> y.loaf(200, what));
    }

    private void keptLoaves() {
        holds("Promise 17", "Throws `IndexOutOfBoundsException` if there is no such loaf that is kept");
        refused("no loaf", INDEX, OvenDays::new, x -> x.loaf(0, 0));
        outside(INDEX, 0, 6, Setup::rich, (x, loaf) -> x.loaf(loaf, 0));
        outside(INDEX, 0, 6, Setup::rich, (x, loaf) -> x.loaf(loaf, 7));
        outside(INDEX, 0, 199, () -> cameOut(200), (x, loaf) -> x.loaf(loaf, 0));
        outside(INDEX, 1, 200, () -> cameOut(201), (x, loaf) -> x.loaf(loaf, 0));
        outside(INDEX, 16, 215, () -> cameOut(216), (x, loaf) -> x.loaf(loaf, 0));
        is("the first of 200", cameOut(200).loaf(0, 0), 0);
        is("the second of 201", cameOut(201).loaf(1, 0), 0);
        is("the last of 201", cameOut(201).loaf(200, 0), 0);
        OvenDays x = cameOut(200);
        Setup.day(x, 40, FLAT, 1);
        refusedHere("dropped", INDEX, x, y -> y.loaf(0, 0));
        x.undo();
        is("kept again after an undo", x.loaf(0, 2), 0);
        refusedHere("gone by an undo", INDEX, x, y -> y.loaf(200, 0));
    }

    // ---- promise 18

    /** Flat bread at 260, 12 breads at 250 and 8 rusks at 200. */
    private static OvenDays threeLoads() {
        OvenDays x = Setup.with(3);
        x.bring(0, RUSKS, 8);
        x.bring(0, BREAD, 5);
        x.bring(0, FLAT, 1);
        x.bring(0, BREAD, 7);
        x.bake(24);
        return x;
    }

    private void load() {
        holds("Promise 18", "Returns a value of a load of the latest day.");
        int[][] due = {{0, 1, 1, 260, 250}, {1, 2, 12, 250, 220}, {2, 1, 8, 200, 152}};
        for (int load = 0; load < 3; load++) {
            int one = load;
            values("load " + load, due[load], (x, what) -> x.load(one, what), threeLoads());
        }
        savesNothing("load", ValueBoundaries::threeLoads, x -> x.load(0, 0));
        OvenDays x = threeLoads();
        x.bring(0, BREAD, 1);
        is("the loads stay until the next day", x.load(2, 2), 8);
        x.bake(20);
        // 76 and 200 are 276.
        is("only those of the latest day", x.load(0, 3), 276);
        is("one load", x.load(1, 0), NONE);
        holds("Promise 18", "- `load`: 0 for the first one");
        is("the first", threeLoads().load(0, 0), FLAT);
        is("the second", threeLoads().load(1, 0), BREAD);
        outside(ARGUMENT, 0, MAX, ValueBoundaries::threeLoads, (y, load) -> y.load(load, 0));
        holds("Promise 18", "- `what`: 0 kind, 1 batches, 2 loaves, 3 heat when it went in, 4 heat when it came out");
        range(ARGUMENT, 0, 4, ValueBoundaries::threeLoads, (y, what) -> y.load(1, what), 1, 2, 250, 220);
        is("the greatest heat", Setup.after(40, FLAT, 24).load(0, 3), 400);
        is("the least heat", Setup.after(7, RUSKS, 24).load(0, 4), 26);
        loadReturns();
    }

    private void loadReturns() {
        holds("Promise 18", "Returns that value; NONE if there were not so many loads.");
        for (int what = 0; what <= 4; what++) {
            int one = what;
            onlyAnswers("no day", OvenDays::new, x -> x.load(0, one), NONE);
            onlyAnswers("one behind the last", ValueBoundaries::threeLoads, x -> x.load(3, one), NONE);
            onlyAnswers("the greatest of all numbers", ValueBoundaries::threeLoads, x -> x.load(MAX, one), NONE);
            isTrue("the last", threeLoads().load(2, what) != NONE);
        }
        OvenDays x = threeLoads();
        Setup.day(x, 1, FLAT, 1);
        is("a day with dough alone", x.load(0, 0), NONE);
        x.undo();
        x.undo();
        is("after an undo", x.load(2, 3), 200);
        // Ten loads: nine of flat bread, of which the last leaves 256, and one of bread; a kind takes 24 at once.
        OvenDays many = Setup.with(1);
        Setup.bring(many, FLAT, 216);
        Setup.bring(many, BREAD, 24);
        many.bake(40);
        is("the tenth load", many.load(9, 0), BREAD);
        is("heat of the tenth load", many.load(9, 3), 256);
        is("no eleventh load", many.load(10, 0), NONE);
        holds("Promise 18", "Throws `IllegalArgumentException` if load is negative, or what is out of range");
        refused("-1", ARGUMENT, Setup::rich, y -> y.load(-1, 0));
        refused("the least int", ARGUMENT, Setup::rich, y -> y.load(MIN, 0));
        refused("-1, before the first day", ARGUMENT, OvenDays::new, y -> y.load(-1, 0));
        outside(ARGUMENT, 0, 4, Setup::rich, (y, what) -> y.load(0, what));
        outside(ARGUMENT, 0, 4, Setup::rich, (y, what) -> y.load(1, what));
        outside(ARGUMENT, 0, 4, OvenDays::new, (y, what) -> y.load(MAX, what));
    }

    // ---- promise 19

    private void whole() {
        holds("Promise 19", "Returns a value of the whole.");
        OvenDays rich = Setup.rich();
        rich.setS(77);
        // 310 is halved to 155; then 400 - 10 to 195, and once more.
        values("rich", new int[] {3, 3, 195, 1, 90, 7, 0, 7, 0, 7, 1, 1, 1, 77}, OvenDays::whole, rich);
        values("new", new int[] {0, 0, 20, 0, 0, 0, 0, 0, 0, 0, 0, 0, 0, 1}, OvenDays::whole, new OvenDays());
        savesNothing("whole", Setup::rich, x -> x.whole(9));
        holds("Promise 19", WHOLE_VALUES);
        range(ARGUMENT, 0, 13, OvenDays::new, OvenDays::whole, 0, 0, 0, 1);
        range(ARGUMENT, 0, 13, ValueBoundaries::threeLoads, (x, what) -> what == 13 ? x.setS(x.setS(9)) : x.whole(what),
                1, 1, 3, 9);
        holds("Promise 19", VALUE_SENTENCE);
        onlyAnswers("the first", Setup::rich, x -> x.whole(0), 3);
        onlyAnswers("the last but one", Setup::rich, x -> x.whole(12), 1);
        onlyAnswers("the last", () -> {
            OvenDays x = Setup.rich();
            x.setS(MAX);
            return x;
        }, x -> x.whole(13), MAX);
        holds("Promise 19", WHAT_SENTENCE);
        outside(ARGUMENT, 0, 13, Setup::rich, OvenDays::whole);
        outside(ARGUMENT, 0, 13, OvenDays::new, OvenDays::whole);
    }

    private void wholeCounts() {
        holds("Promise 19", WHOLE_VALUES);
        is("seven households", Setup.many(7).whole(0), 7);
        is("eight households", Setup.many(8).whole(0), 8);
        is("one batch", waiting(1).whole(3), 1);
        is("twenty batches", waiting(20).whole(3), 20);
        OvenDays x = waiting(20);
        is("no day", x.whole(1), 0);
        x.bake(6);
        is("one day", x.whole(1), 1);
        is("wood", x.whole(4), 6);
        is("put in", x.whole(5), 0);
        // 1 to 12 are 78, and 1 to 8 are 36.
        is("dough", x.whole(6), 114);
        is("came out", x.whole(7), 0);
        is("pale", x.whole(8), 0);
        is("loads", x.whole(12), 0);
        OvenDays pale = Setup.after(7, RUSKS, 7);
        is("seven pale ones", pale.whole(8), 7);
        Setup.day(pale, 40, FLAT, 1);
        is("pale ones of the day before", pale.whole(8), 7);
        is("all that came out", pale.whole(7), 8);
        is("loads of the latest day alone", pale.whole(12), 1);
        Setup.day(pale, 1, FLAT, 2);
        is("dough of one day", pale.whole(6), 2);
        Setup.day(pale, 1, FLAT, 12);
        is("dough of two days", pale.whole(6), 14);
        is("the least heat", Setup.after(1, FLAT, 1).whole(2), 20);
        is("the greatest heat of an evening", Setup.after(40, FLAT, 1).whole(2), 195);
    }

    private void wholeKept() {
        holds("Promise 19", WHOLE_VALUES);
        int[] cameOut = {1, 199, 200, 201, 216};
        int[] kept = {1, 199, 200, 200, 200};
        for (int index = 0; index < cameOut.length; index++) {
            OvenDays x = cameOut(cameOut[index]);
            is("kept", x.whole(9), kept[index]);
            is("came out", x.whole(7), cameOut[index]);
            is("put in", x.whole(5), cameOut[index]);
            is("on the shelf", x.whole(10), 0);
            is("with others", x.whole(11), 0);
        }
        // Pale ones that are dropped still count.
        OvenDays pale = Setup.after(7, RUSKS, 1);
        Setup.day(pale, 40, FLAT, 200);
        is("a pale one that is dropped", pale.whole(8), 1);
        OvenDays rich = Setup.rich();
        rich.returnLoaves(2);
        is("two on the shelf", rich.whole(10), 2);
        is("none with others", rich.whole(11), 0);
        rich.giveAway();
        is("none on the shelf", rich.whole(10), 0);
        is("those given away are with no others", rich.whole(11), 0);
    }
}

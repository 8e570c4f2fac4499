/** "HOUSEHOLDS AND WOOD", and promises 1 to 4, 13 and 14. */
final class HouseholdBoundaries extends Boundaries {
    private static final String PLACE = "HOUSEHOLDS AND WOOD";
    private static final String INDEX_SENTENCE = "Throws `IndexOutOfBoundsException` if there is no such household";
    private static final String MARK_SENTENCE = "Throws `IllegalArgumentException` if mark is out of range";
    private static final String HOUSEHOLD_SENTENCE = "- `household`: number of a household";

    @Override
    void all() {
        atMostEight();
        marksOfTheirOwn();
        woodAndLoavesOfAll();
        dueByWoodAndLoaves();
        dueBeyondAnInt();
        greatestDue();
        lowestNumberOfEquals();
        excusedAreLeftOut();
        newObject();
        join();
        remark();
        excuse();
        due();
        nextForWood();
    }

    private static OvenDays eight() {
        return Setup.many(8);
    }

    private static OvenDays seven() {
        return Setup.many(7);
    }

    // ---- the description

    private void atMostEight() {
        holds(PLACE, "There are at most 8 households, numbered from 0.");
        OvenDays x = new OvenDays();
        is("none", x.whole(0), 0);
        for (int household = 0; household < 7; household++) {
            is("join", x.join(11 + household), household);
        }
        is("one below full", x.whole(0), 7);
        is("the eighth", x.join(18), 7);
        is("full", x.whole(0), 8);
        is("mark of the first", x.household(0, 0), 11);
        is("mark of the last", x.household(7, 0), 18);
        refused("a ninth", STATE, HouseholdBoundaries::eight, y -> y.join(3));
        refused("the one behind the last", INDEX, HouseholdBoundaries::eight, y -> y.household(8, 0));
        refused("the one in front of the first", INDEX, HouseholdBoundaries::eight, y -> y.household(-1, 0));
        refused("the first of none", INDEX, OvenDays::new, y -> y.household(0, 0));
        OvenDays byText = seven();
        is("an eighth and a ninth by a text", Setup.run(byText, "join 3;join 5;"), 1);
        is("the ninth is refused", byText.stop(), 3);
        is("eight of the text", byText.whole(0), 8);
    }

    private void marksOfTheirOwn() {
        holds(PLACE, "Each has a mark, a bit mask of 16 grooves, 1 to 65535, which no other household has; wood that it has "
                + "brought so far; and loaves that it has put into the oven so far.");
        OvenDays x = Setup.with(5);
        is("no wood at first", x.household(0, 1), 0);
        is("no loaves at first", x.household(0, 2), 0);
        is("a mark below", x.join(4), 1);
        is("a mark above", x.join(6), 2);
        is("the least", x.join(1), 3);
        is("the greatest", x.join(65535), 4);
        is("the greatest but one", x.join(65534), 5);
        is("the mark of groove 15", x.join(32768), 6);
        int[] marks = {5, 4, 6, 1, 65535, 65534, 32768};
        for (int household = 0; household < 7; household++) {
            is("mark of " + household, x.household(household, 0), marks[household]);
        }
        refused("the mark of another one", STATE, () -> Setup.with(5), y -> y.join(5));
        for (int mark : new int[] {0, -1, 65536, 65536 + 5, MIN, MAX}) {
            refused("mark " + mark, ARGUMENT, () -> Setup.with(5), y -> y.join(mark));
        }
        x.bring(0, 0, 1);
        is("a batch that waits is not put in", x.household(0, 2), 0);
        x.bake(24);
        is("wood of one day", x.household(0, 1), 24);
        is("one loaf", x.household(0, 2), 1);
        is("no wood of another one", x.household(1, 1), 0);
    }

    private void woodAndLoavesOfAll() {
        holds(PLACE, "Let wood be what all have brought, and loaves what all have put in.");
        OvenDays x = Setup.with(1, 2);
        is("no wood", x.whole(4), 0);
        is("no loaves", x.whole(5), 0);
        x.bring(1, 0, 2);
        x.bake(30);
        is("wood of one", x.whole(4), 30);
        is("loaves of one", x.whole(5), 2);
        // Household 1 has put in all and brought nothing, so it is the next one.
        x.bring(0, 0, 3);
        x.bake(1);
        is("wood of both", x.whole(4), 31);
        is("dough is not put in", x.whole(5), 2);
        x.bring(0, 0, 3);
        x.bake(40);
        is("wood of the third day", x.whole(4), 71);
        is("loaves of both", x.whole(5), 5);
    }

    private void dueByWoodAndLoaves() {
        holds(PLACE, "The due of a household is wood * (its loaves) - loaves * (its wood).");
        OvenDays x = Setup.with(1, 2);
        is("due of nothing", x.due(0), 0);
        x.bring(0, 0, 1);
        x.bake(1);
        is("wood without loaves", x.due(0), 0);
        x.bring(1, 0, 1);
        x.bake(24);
        // Wood 25 of household 0, 1 loaf of household 1.
        is("below 0", x.due(0), -25);
        is("above 0", x.due(1), 25);
        OvenDays alone = Setup.after(24, 0, 7);
        is("one alone owes nothing", alone.due(0), 0);
    }

    /** Each day of the text 40 pieces of wood and 12 loaves, all of household 0; household 1 has brought 40 before. */
    private void dueBeyondAnInt() {
        holds(PLACE, "The due of a household is wood * (its loaves) - loaves * (its wood).");
        OvenDays x = Setup.with(1, 2);
        x.excuse(0);
        x.bring(0, 0, 12);
        x.bake(40);
        Setup.type(x, "bring 0 0 12;bake 40;".repeat(7));
        for (int run = 1; run < 302; run++) {
            x.runCommands();
        }
        is("seven days a run", x.runCommands(), 14);
        is("wood", x.whole(4), 84_600);
        is("loaves", x.whole(5), 25_380);
        dough(x, 5);
        dough(x, 8);
        // 84613 * 25380 = 2147477940 is below 2147483648, the next one is not; 25380 * 84573 = 2146462740.
        is("wood before the wrap", x.whole(4), 84_613);
        is("due of 0 before the wrap", x.due(0), 1_015_200);
        is("due of 1 before the wrap", x.due(1), -1_015_200);
        dough(x, 1);
        is("wood behind the wrap", x.whole(4), 84_614);
        is("due of 0 behind the wrap", x.due(0), 1_015_200);
        is("due of 1 behind the wrap", x.due(1), -1_015_200);
        is("the next one", x.nextForWood(), 0);
    }

    private static void dough(OvenDays x, int wood) {
        x.bring(0, 0, 1);
        x.bake(wood);
    }

    /** Household 1 brings 2, household 0 the rest; rusks of each as told. */
    private static OvenDays afterTwoDays(int woodOfFirst, int... rusks) {
        OvenDays x = Setup.with(1, 2, 4);
        x.excuse(0);
        x.excuse(2);
        x.bring(0, 0, 1);
        x.bake(2);
        for (int household = 0; household < 3; household++) {
            x.bring(household, 2, rusks[household]);
        }
        x.bake(woodOfFirst);
        return x;
    }

    private void greatestDue() {
        holds(PLACE, "The next one to bring wood is the household with the greatest due, of several the one with the lowest "
                + "number; households that are excused are left out, unless all are.");
        OvenDays x = afterTwoDays(7, 1, 2, 1);
        // Wood 9, of which 7, 2 and 0; loaves 4.
        is("due of 1, one above", x.due(1), 10);
        is("due of 2", x.due(2), 9);
        is("due of 0", x.due(0), -19);
        is("greater by one", x.nextForWood(), 1);
        OvenDays y = afterTwoDays(7, 2, 2, 1);
        // Wood 9, of which 7, 2 and 0; loaves 5.
        is("due of 1, one below", y.due(1), 8);
        is("due of 2", y.due(2), 9);
        is("smaller by one", y.nextForWood(), 2);
    }

    private void lowestNumberOfEquals() {
        holds(PLACE, "The next one to bring wood is the household with the greatest due, of several the one with the lowest "
                + "number; households that are excused are left out, unless all are.");
        OvenDays x = afterTwoDays(8, 2, 2, 1);
        // Wood 10, of which 8, 2 and 0; loaves 5.
        is("due of 1", x.due(1), 10);
        is("due of 2", x.due(2), 10);
        is("the lower number of equals", x.nextForWood(), 1);
        is("of eight equals", eight().nextForWood(), 0);
        is("of one", Setup.with(9).nextForWood(), 0);
        is("of none", new OvenDays().nextForWood(), NONE);
    }

    private void excusedAreLeftOut() {
        holds(PLACE, "The next one to bring wood is the household with the greatest due, of several the one with the lowest "
                + "number; households that are excused are left out, unless all are.");
        OvenDays x = afterTwoDays(7, 1, 2, 1);
        x.excuse(0);
        is("another one is excused", x.nextForWood(), 1);
        x.excuse(1);
        is("all but one are excused", x.nextForWood(), 2);
        x.excuse(2);
        is("all are excused", x.nextForWood(), 1);
        OvenDays y = afterTwoDays(7, 1, 2, 1);
        y.excuse(1);
        y.excuse(2);
        is("the one that is left has the least due", y.nextForWood(), 0);
        OvenDays z = eight();
        for (int household = 0; household < 7; household++) {
            is("before " + household + " is excused", z.nextForWood(), household);
            z.excuse(household);
        }
        is("seven of eight are excused", z.nextForWood(), 7);
        z.excuse(7);
        is("eight of eight are excused", z.nextForWood(), 0);
        OvenDays alone = Setup.with(9);
        alone.excuse(0);
        is("one of one is excused", alone.nextForWood(), 0);
    }

    // ---- promise 1

    private void newObject() {
        holds("Promise 1", "Creates a village without households, with the heat 20, s 1, an empty command text, no stop and "
                + "an empty undo stack.");
        OvenDays x = new OvenDays();
        int[] wholes = {0, 0, 20, 0, 0, 0, 0, 0, 0, 0, 0, 0, 0, 1};
        for (int what = 0; what < wholes.length; what++) {
            is("whole(" + what + ")", x.whole(what), wholes[what]);
        }
        is("stop", x.stop(), 0);
        is("nextForWood", x.nextForWood(), NONE);
        is("likeMarks", x.likeMarks(), 0);
        is("bestWood", x.bestWood(), NONE);
        is("doughWith(40)", x.doughWith(40), 0);
        is("batch(0, 0)", x.batch(0, 0), NONE);
        is("load(0, 0)", x.load(0, 0), NONE);
        is("clearCommands", x.clearCommands(), 0);
        refused("undo", STATE, OvenDays::new, OvenDays::undo);
        refused("household(0, 0)", INDEX, OvenDays::new, y -> y.household(0, 0));
        refused("due(0)", INDEX, OvenDays::new, y -> y.due(0));
        refused("balance(0, 0)", INDEX, OvenDays::new, y -> y.balance(0, 0));
        refused("loaf(0, 0)", INDEX, OvenDays::new, y -> y.loaf(0, 0));
        refused("takeBack(0)", INDEX, OvenDays::new, y -> y.takeBack(0));
        refused("bake(1)", STATE, OvenDays::new, y -> y.bake(1));
        onlyAnswers("giveAway, undone", OvenDays::new, y -> y.giveAway() + y.undo(), 0);
        OvenDays other = new OvenDays();
        x.join(1);
        is("another object", other.whole(0), 0);
    }

    // ---- promise 2

    private void join() {
        joinAdds();
        joinMark();
        joinReturns();
        joinRefusesMarks();
        joinRefusesNow();
    }

    private void joinAdds() {
        holds("Promise 2", "Adds a household. Undoable.");
        OvenDays x = Setup.rich();
        is("join", x.join(99), 3);
        is("households", x.whole(0), 4);
        is("mark", x.household(3, 0), 99);
        for (int what = 1; what < 8; what++) {
            is("value " + what + " of a new one", x.household(3, what), 0);
        }
        for (int kind = 0; kind < 3; kind++) {
            is("balance of a new one", x.balance(3, kind), 0);
        }
        OvenDays again = Setup.with(1);
        Setup.run(again, "join 9;excuse 0;bring 1 0 3;bake 40;excuse 1;");
        is("wood of one that will be gone", again.household(1, 1), 40);
        again.undo();
        is("join after an undo", again.join(6), 1);
        for (int what = 1; what < 8; what++) {
            is("value " + what + " of a new one after an undo", again.household(1, what), 0);
        }
        undoable("join", Setup::rich, y -> y.join(99));
        undoable("join of the first", OvenDays::new, y -> y.join(99));
        undoable("join of the eighth", () -> undone(eight()), y -> y.join(999));
    }

    private static OvenDays undone(OvenDays x) {
        x.undo();
        return x;
    }

    private void joinMark() {
        holds("Promise 2", "- `mark`: 1 to 65535");
        range(ARGUMENT, 1, 65535, () -> Setup.with(9), OvenDays::join, 1, 1, 1, 1);
        range(ARGUMENT, 1, 65535, OvenDays::new, OvenDays::join, 0, 0, 0, 0);
    }

    private void joinReturns() {
        holds("Promise 2", "Returns the number of the household.");
        is("the first", new OvenDays().join(9), 0);
        is("the second", Setup.with(9).join(8), 1);
        is("the seventh", Setup.many(6).join(999), 6);
        is("the eighth", seven().join(999), 7);
        is("the eighth again, after an undo", undone(eight()).join(999), 7);
    }

    private void joinRefusesMarks() {
        holds("Promise 2", MARK_SENTENCE);
        outside(ARGUMENT, 1, 65535, Setup::rich, OvenDays::join);
        outside(ARGUMENT, 1, 65535, HouseholdBoundaries::eight, OvenDays::join);
    }

    private void joinRefusesNow() {
        holds("Promise 2", "Throws `IllegalStateException` if there are 8 households, or another one has this mark");
        is("one below full", seven().join(999), 7);
        refused("full", STATE, HouseholdBoundaries::eight, y -> y.join(999));
        refused("full, and another one has it", STATE, HouseholdBoundaries::eight, y -> y.join(1));
        refused("the first one has it", STATE, Setup::rich, y -> y.join(7));
        refused("the last one has it", STATE, Setup::rich, y -> y.join(3));
        is("the mark below", Setup.rich().join(6), 3);
        is("the mark above", Setup.rich().join(8), 3);
        OvenDays x = Setup.rich();
        x.remark(0, 70);
        is("a mark that is free again", x.join(7), 3);
        refused("a mark that is new to another one", STATE, () -> {
            OvenDays y = Setup.rich();
            y.remark(0, 70);
            return y;
        }, y -> y.join(70));
        OvenDays z = Setup.with(7, 9);
        z.undo();
        is("a mark of one that is gone by an undo", z.join(9), 1);
    }

    // ---- promise 3

    private void remark() {
        holds("Promise 3", "Gives a household another mark, or the same. Undoable.");
        OvenDays x = Setup.rich();
        x.remark(0, 12);
        is("another mark", x.household(0, 0), 12);
        x.remark(0, 12);
        is("the same", x.household(0, 0), 12);
        is("the mark of another one", x.household(1, 0), 11);
        is("the print of a loaf from before", x.loaf(5, 4), 3);
        undoable("another mark", Setup::rich, y -> y.remark(0, 12));
        undoable("the same", Setup::rich, y -> y.remark(0, 7));
        remarkHousehold();
        remarkMark();
        remarkReturns();
        remarkRefuses();
    }

    private void remarkHousehold() {
        holds("Promise 3", HOUSEHOLD_SENTENCE);
        range(INDEX, 0, 7, HouseholdBoundaries::eight, (x, household) -> x.remark(household, 999), 1, 2, 64, 128);
        outside(INDEX, 0, 0, () -> Setup.with(9), (x, household) -> x.remark(household, 999));
        holds("Promise 3", INDEX_SENTENCE);
        outside(INDEX, 0, 2, Setup::rich, (x, household) -> x.remark(household, 999));
        outside(INDEX, 0, 2, Setup::rich, (x, household) -> x.remark(household, 0));
        outside(INDEX, 0, 2, Setup::rich, (x, household) -> x.remark(household, 7));
        refused("of none", INDEX, OvenDays::new, x -> x.remark(0, 1));
    }

    private void remarkMark() {
        holds("Promise 3", "- `mark`: 1 to 65535");
        range(ARGUMENT, 1, 65535, Setup::rich, (x, mark) -> x.remark(0, mark), 7, 7, 7, 7);
        holds("Promise 3", MARK_SENTENCE);
        outside(ARGUMENT, 1, 65535, Setup::rich, (x, mark) -> x.remark(2, mark));
    }

    private void remarkReturns() {
        holds("Promise 3", "Returns the previous mark.");
        OvenDays x = Setup.with(1, 65535);
        is("the least", x.remark(0, 3), 1);
        is("the greatest", x.remark(1, 4), 65535);
        is("the one from before", x.remark(0, 3), 3);
        is("the same again", x.remark(0, 5), 3);
    }

    private void remarkRefuses() {
        holds("Promise 3", "Throws `IllegalStateException` if another household has this mark");
        refused("the mark of the first", STATE, Setup::rich, x -> x.remark(1, 7));
        refused("the mark of the last", STATE, Setup::rich, x -> x.remark(1, 3));
        refused("the mark of one behind", STATE, Setup::rich, x -> x.remark(0, 11));
        is("its own", Setup.rich().remark(1, 11), 11);
        is("the mark above another one", Setup.rich().remark(1, 8), 11);
        is("the mark below another one", Setup.rich().remark(1, 6), 11);
        OvenDays x = Setup.rich();
        x.remark(0, 70);
        is("a mark that is free again", x.remark(1, 7), 11);
        is("of eight, to one that is free", eight().remark(7, 3), 128);
        refused("of eight, to that of another", STATE, HouseholdBoundaries::eight, y -> y.remark(7, 64));
    }

    // ---- promise 4

    private void excuse() {
        holds("Promise 4", "Excuses a household from the wood of the next day. Undoable.");
        OvenDays x = Setup.with(1, 2);
        x.excuse(0);
        is("excused", x.household(0, 3), 1);
        is("the other one is not", x.household(1, 3), 0);
        x.bring(0, 0, 1);
        x.bake(3);
        is("no wood of the next day", x.household(0, 1), 0);
        is("wood of the other one", x.household(1, 1), 3);
        x.bring(0, 0, 1);
        x.bake(4);
        is("wood of the day after that", x.household(0, 1), 4);
        undoable("excuse", Setup::rich, y -> y.excuse(0));
        undoable("excuse again", Setup::rich, y -> y.excuse(1));
        holds("Promise 4", HOUSEHOLD_SENTENCE);
        range(INDEX, 0, 7, HouseholdBoundaries::eight, OvenDays::excuse, 1, 1, 1, 1);
        holds("Promise 4", "Returns the number of households that are excused.");
        OvenDays y = eight();
        for (int household = 0; household < 8; household++) {
            is("excuse(" + household + ")", y.excuse(household), household + 1);
            is("excuse(" + household + ") again", y.excuse(household), household + 1);
        }
        y.bring(0, 0, 1);
        y.bake(1);
        is("the first of the next day", y.excuse(7), 1);
        holds("Promise 4", INDEX_SENTENCE);
        outside(INDEX, 0, 2, Setup::rich, OvenDays::excuse);
        refused("of none", INDEX, OvenDays::new, z -> z.excuse(0));
    }

    // ---- promises 13 and 14

    private void due() {
        holds("Promise 13", "Returns the due of a household.");
        OvenDays x = afterTwoDays(7, 1, 2, 1);
        is("the due of 0", x.due(0), -19);
        is("the due of 1", x.due(1), 10);
        savesNothing("due", Setup::rich, y -> y.due(0));
        holds("Promise 13", HOUSEHOLD_SENTENCE);
        range(INDEX, 0, 7, HouseholdBoundaries::eight, (y, household) -> (int) y.due(household), 0, 0, 0, 0);
        holds("Promise 13", "Returns the due.");
        is("of the last", x.due(2), 9);
        onlyAnswers("of nothing", () -> Setup.with(1), y -> y.due(0), 0);
        holds("Promise 13", INDEX_SENTENCE);
        outside(INDEX, 0, 2, Setup::rich, OvenDays::due);
        refused("of none", INDEX, OvenDays::new, y -> y.due(0));
    }

    private void nextForWood() {
        holds("Promise 14", "Returns the next one to bring wood.");
        is("of two", Setup.with(1, 2).nextForWood(), 0);
        is("by the dues", afterTwoDays(7, 2, 2, 1).nextForWood(), 2);
        savesNothing("nextForWood", Setup::rich, OvenDays::nextForWood);
        holds("Promise 14", "Returns the household; NONE if there is none.");
        onlyAnswers("none", OvenDays::new, OvenDays::nextForWood, NONE);
        onlyAnswers("one", () -> Setup.with(1), OvenDays::nextForWood, 0);
        onlyAnswers("one that is excused", () -> {
            OvenDays x = Setup.with(1);
            x.excuse(0);
            return x;
        }, OvenDays::nextForWood, 0);
        is("none again", undone(Setup.with(1)).nextForWood(), NONE);
    }
}

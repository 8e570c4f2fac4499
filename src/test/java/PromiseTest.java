/** For each promise what the document says, worked out by hand. */
public final class PromiseTest {
    private static final Class<?> INDEX = IndexOutOfBoundsException.class;
    private static final Class<?> ARGUMENT = IllegalArgumentException.class;
    private static final Class<?> STATE = IllegalStateException.class;
    private static final int[] BELOW_0 = {-1, Integer.MIN_VALUE};

    private static final Check check = new Check();

    public static void main(String[] args) {
        newObject();
        join();
        remark();
        excuse();
        bring();
        takeBack();
        setS();
        bake();
        claim();
        returnLoaves();
        giveAway();
        household();
        due();
        nextForWood();
        balance();
        batch();
        loaf();
        load();
        whole();
        doughWith();
        bestWood();
        likeMarks();
        freeMark();
        type();
        clearCommands();
        runCommands();
        stop();
        undo();
        digest();
        check.end();
    }

    // ---- promise 1

    private static void newObject() {
        OvenDays x = new OvenDays();
        int[] wholeDue = {0, 0, 20, 0, 0, 0, 0, 0, 0, 0, 0, 0, 0, 1};
        for (int what = 0; what < wholeDue.length; what++) {
            check.is("new: whole(" + what + ")", x.whole(what), wholeDue[what]);
        }
        check.is("new: nextForWood", x.nextForWood(), OvenDays.NONE);
        check.is("new: bestWood", x.bestWood(), OvenDays.NONE);
        check.is("new: batch", x.batch(0, 0), OvenDays.NONE);
        check.is("new: load", x.load(0, 0), OvenDays.NONE);
        check.is("new: likeMarks", x.likeMarks(), 0);
        check.is("new: stop", x.stop(), 0);
        check.is("new: clearCommands", x.clearCommands(), 0);
        check.refuses("new: undo", STATE, x::undo);
        check.refuses("new: household", INDEX, () -> x.household(0, 0));
        check.refuses("new: loaf", INDEX, () -> x.loaf(0, 0));
        OvenDays other = new OvenDays();
        x.join(9);
        check.is("new: objects are apart", other.whole(0), 0);
        check.is("NONE", OvenDays.NONE, -1);
        check.is("SHELF", OvenDays.SHELF, 8);
    }

    // ---- promise 2

    private static void join() {
        OvenDays x = new OvenDays();
        check.is("join(1)", x.join(1), 0);
        check.is("join(65535)", x.join(65535), 1);
        refusedWithoutChange("join(0)", ARGUMENT, x, () -> x.join(0));
        refusedWithoutChange("join(-1)", ARGUMENT, x, () -> x.join(-1));
        refusedWithoutChange("join(65536)", ARGUMENT, x, () -> x.join(65536));
        refusedWithoutChange("join(MIN)", ARGUMENT, x, () -> x.join(Integer.MIN_VALUE));
        refusedWithoutChange("join(MAX)", ARGUMENT, x, () -> x.join(Integer.MAX_VALUE));
        refusedWithoutChange("join of a mark that is there", STATE, x, () -> x.join(65535));
        for (int mark = 2; mark <= 7; mark++) {
            check.is("join(" + mark + ")", x.join(mark), mark);
        }
        refusedWithoutChange("join of a ninth", STATE, x, () -> x.join(100));
        refusedWithoutChange("join of a ninth without mark", ARGUMENT, x, () -> x.join(0));
        check.is("mark of 7", x.household(7, 0), 7);
        check.is("undo of join", x.undo(), 3);
        check.is("households after undo", x.whole(0), 7);
        check.is("join again", x.join(100), 7);
        OvenDays run = Setup.with(1);
        Setup.run(run, "join 9;excuse 0;bring 1 0 3;bake 40;excuse 1;");
        run.undo();
        check.is("wood and loaves of one that is gone", run.whole(4) + run.whole(5), 0);
        run.join(6);
        for (int what = 1; what < 8; what++) {
            check.is("a new one after undo has nothing of value " + what, run.household(1, what), 0);
        }
    }

    // ---- promise 3

    private static void remark() {
        OvenDays x = Setup.with(5, 6);
        check.is("remark", x.remark(0, 9), 5);
        check.is("remark: mark", x.household(0, 0), 9);
        check.is("remark to the same", x.remark(0, 9), 9);
        check.is("remark to the greatest", x.remark(1, 65535), 6);
        check.is("remark to the least", x.remark(1, 1), 65535);
        check.is("remark to one that is free again", x.remark(1, 5), 1);
        refusedWithoutChange("remark to another one's", STATE, x, () -> x.remark(1, 9));
        refusedWithoutChange("remark to 0", ARGUMENT, x, () -> x.remark(1, 0));
        refusedWithoutChange("remark to 65536", ARGUMENT, x, () -> x.remark(1, 65536));
        refusedWithoutChange("remark of 2", INDEX, x, () -> x.remark(2, 0));
        refusedWithoutChange("remark of -1", INDEX, x, () -> x.remark(-1, 9));
        check.is("undo of remark", x.undo(), 3);
        check.is("mark after undo", x.household(1, 0), 1);
        x.undo();
        x.undo();
        check.is("undo of the same mark is a state too", x.undo(), 0);
        check.is("mark of 0 after undo", x.household(0, 0), 9);
    }

    // ---- promise 4

    private static void excuse() {
        OvenDays x = Setup.with(1, 2, 4);
        check.is("excuse(0)", x.excuse(0), 1);
        check.is("excuse(0) again", x.excuse(0), 1);
        check.is("excuse(2)", x.excuse(2), 2);
        check.is("excused 0", x.household(0, 3), 1);
        check.is("excused 1", x.household(1, 3), 0);
        check.is("next is who is left", x.nextForWood(), 1);
        check.is("excuse(1)", x.excuse(1), 3);
        check.is("next when all are excused", x.nextForWood(), 0);
        refusedWithoutChange("excuse(3)", INDEX, x, () -> x.excuse(3));
        refusedWithoutChange("excuse(-1)", INDEX, x, () -> x.excuse(-1));
        check.is("undo of excuse", x.undo(), 3);
        check.is("excused 1 after undo", x.household(1, 3), 0);
        x.bring(0, 0, 1);
        x.bake(1);
        check.is("wood of 1", x.household(1, 1), 1);
        check.is("excuses are over", x.household(0, 3) + x.household(2, 3), 0);
    }

    // ---- promise 5

    private static void bring() {
        OvenDays x = Setup.with(1, 2);
        check.is("bring", x.bring(0, 0, 1), 0);
        check.is("bring another", x.bring(1, 2, 12), 1);
        refusedWithoutChange("bring of 2", INDEX, x, () -> x.bring(2, 3, 0));
        refusedWithoutChange("bring of -1", INDEX, x, () -> x.bring(-1, 0, 1));
        refusedWithoutChange("bring kind 3", ARGUMENT, x, () -> x.bring(0, 3, 1));
        refusedWithoutChange("bring kind -1", ARGUMENT, x, () -> x.bring(0, -1, 1));
        refusedWithoutChange("bring 0 loaves", ARGUMENT, x, () -> x.bring(0, 0, 0));
        refusedWithoutChange("bring 13 loaves", ARGUMENT, x, () -> x.bring(0, 0, 13));
        refusedWithoutChange("bring MIN loaves", ARGUMENT, x, () -> x.bring(0, 0, Integer.MIN_VALUE));
        for (int batch = 2; batch < 20; batch++) {
            check.is("bring number " + batch, x.bring(batch % 2, 1, 3), batch);
        }
        refusedWithoutChange("bring a 21st", STATE, x, () -> x.bring(0, 1, 3));
        refusedWithoutChange("bring a 21st of kind 3", ARGUMENT, x, () -> x.bring(0, 3, 3));
        check.is("waiting", x.whole(3), 20);
        check.is("undo of bring", x.undo(), 3);
        check.is("waiting after undo", x.whole(3), 19);
        check.is("bringing puts nothing in", x.whole(5), 0);
    }

    // ---- promise 6

    private static void takeBack() {
        OvenDays x = Setup.with(1, 2);
        x.bring(0, 0, 3);
        x.bring(1, 1, 4);
        x.bring(0, 2, 5);
        refusedWithoutChange("takeBack(3)", INDEX, x, () -> x.takeBack(3));
        refusedWithoutChange("takeBack(-1)", INDEX, x, () -> x.takeBack(-1));
        check.is("takeBack(1)", x.takeBack(1), 4);
        check.is("waiting", x.whole(3), 2);
        check.is("household of the one behind", x.batch(1, 0), 0);
        check.is("kind of the one behind", x.batch(1, 1), 2);
        check.is("loaves of the one behind", x.batch(1, 2), 5);
        check.is("no batch 2", x.batch(2, 0), OvenDays.NONE);
        check.is("undo of takeBack", x.undo(), 3);
        check.is("batch 1 after undo", x.batch(1, 2), 4);
        check.is("batch 2 after undo", x.batch(2, 2), 5);
        check.is("takeBack of the last", x.takeBack(2), 5);
        check.is("takeBack of the first", x.takeBack(0), 3);
        check.is("takeBack of the only one", x.takeBack(0), 4);
        refusedWithoutChange("takeBack of none", INDEX, x, () -> x.takeBack(0));
        for (int batch = 0; batch < 20; batch++) {
            x.bring(0, 0, 1 + batch % 12);
        }
        check.is("takeBack of the 20th", x.takeBack(19), 8);
        check.is("takeBack of the first of many", x.takeBack(0), 1);
        check.is("waiting of many", x.whole(3), 18);
        check.is("the last one moved up", x.batch(17, 2), 7);
    }

    // ---- promise 7

    private static void setS() {
        OvenDays x = new OvenDays();
        check.is("setS(7)", x.setS(7), 1);
        check.is("setS(0)", x.setS(0), 7);
        check.is("setS(MAX)", x.setS(Integer.MAX_VALUE), 0);
        check.is("s", x.whole(13), Integer.MAX_VALUE);
        refusedWithoutChange("setS(-1)", ARGUMENT, x, () -> x.setS(-1));
        refusedWithoutChange("setS(MIN)", ARGUMENT, x, () -> x.setS(Integer.MIN_VALUE));
        check.is("undo of setS", x.undo(), 2);
        check.is("s after undo", x.whole(13), 0);
        x.join(65535);
        x.setS(Integer.MAX_VALUE);
        x.bring(0, 0, 1);
        x.bake(30);
        // (1103515245 * 2147483647 + 12345) modulo 2147483648 is 1043980748; 1043980748 / 65536 is 15929,
        // which is 1 modulo 4: one loss, for which a second number is drawn.
        check.is("one loss", x.loaf(0, 6), 1);
        check.is("s after two draws", x.whole(13), (1103515245L * 1043980748L + 12345L) % 2147483648L);
    }

    // ---- promise 8

    private static void bake() {
        bakeRefusals();
        bakeHeats();
        bakePale();
        bakeOrder();
        bakeWood();
        bakePrints();
        bakeSorting();
        bakeKeeps();
    }

    private static void bakeRefusals() {
        OvenDays x = Setup.with(1);
        for (int wood : new int[] {0, -1, 41, Integer.MIN_VALUE, Integer.MAX_VALUE}) {
            refusedWithoutChange("bake(" + wood + ")", ARGUMENT, x, () -> x.bake(wood));
        }
        refusedWithoutChange("bake with nothing to bake", STATE, x, () -> x.bake(1));
        x.bring(0, 1, 4);
        refusedWithoutChange("bake(41) with a batch", ARGUMENT, x, () -> x.bake(41));
        long before = x.digest();
        check.is("bake(40)", x.bake(40), 4);
        check.is("undo of bake", x.undo(), 2);
        check.is("all is as before the day", x.digest(), before);
        check.is("heat after undo", x.whole(2), 20);
        check.is("batch after undo", x.whole(3), 1);
        check.is("loaves after undo", x.whole(9) + x.whole(7) + x.household(0, 2), 0);
        check.is("s after undo", x.whole(13), 1);
    }

    /** A day with one batch of each kind given (0 loaves: none), then the loads as kind, heat in, heat out. */
    private static OvenDays day(int wood, int flat, int bread, int rusks) {
        OvenDays x = Setup.with(3);
        int[] sizes = {flat, bread, rusks};
        for (int kind = 0; kind < 3; kind++) {
            if (sizes[kind] > 0) {
                x.bring(0, kind, sizes[kind]);
            }
        }
        x.bake(wood);
        return x;
    }

    private static void loads(String what, OvenDays x, int... due) {
        check.is(what + ": loads", x.whole(12), due.length / 3);
        for (int load = 0; load < due.length / 3; load++) {
            check.is(what + ": kind of load " + load, x.load(load, 0), due[3 * load]);
            check.is(what + ": heat in of load " + load, x.load(load, 3), due[3 * load + 1]);
            check.is(what + ": heat out of load " + load, x.load(load, 4), due[3 * load + 2]);
        }
    }

    private static void bakeHeats() {
        loads("flat bread at 260", day(24, 7, 0, 0), 0, 260, 250);
        loads("flat bread at 250", day(23, 7, 0, 0));
        loads("flat bread at 400", day(40, 8, 0, 0), 0, 400, 388);
        loads("bread at 180", day(16, 0, 1, 0), 1, 180, 155);
        loads("bread at 170", day(15, 0, 1, 0));
        loads("bread at 300", day(28, 0, 1, 0), 1, 300, 275);
        loads("bread at 310 waits two ticks", day(29, 0, 1, 0), 1, 300, 275);
        loads("rusks at 90", day(7, 0, 0, 1), 2, 90, 50);
        loads("rusks at 80", day(6, 0, 0, 1));
        loads("rusks at 200", day(18, 0, 0, 12), 2, 200, 152);
        loads("rusks at 210 wait two ticks", day(19, 0, 0, 1), 2, 200, 160);
        loads("flat bread before bread", day(26, 1, 1, 0), 0, 280, 270, 1, 270, 245);
        loads("bread before rusks", day(17, 0, 1, 1), 1, 190, 165, 2, 165, 125);
        loads("all in turn", day(24, 1, 1, 1), 0, 260, 250, 1, 250, 225, 2, 200, 160);
        loads("flat bread is dough when rusks have waited", day(23, 5, 0, 1), 2, 200, 160);
        check.is("dough of that", day(23, 5, 0, 1).whole(6), 5);
        check.is("only kinds that wait can be too cold", day(23, 5, 0, 0).whole(2), 125);
        bakeOddHeats();
        check.is("heat is halved", day(24, 1, 0, 0).whole(2), 125);
        check.is("heat is halved and rounded down", day(16, 0, 1, 0).whole(2), 77);
        check.is("heat is halved, but not below 20", day(1, 1, 1, 1).whole(2), 20);
        check.is("heat is halved to 20", day(2, 1, 1, 1).whole(2), 20);
        check.is("heat is halved to 25", day(3, 1, 1, 1).whole(2), 25);
        OvenDays x = day(40, 1, 0, 0);
        x.bring(0, 0, 1);
        x.bake(40);
        loads("heat is not above 400", x, 0, 400, 390);
        OvenDays dough = day(1, 3, 4, 5);
        check.is("dough: loads", dough.whole(12), 0);
        check.is("dough: loaves", dough.whole(6), 12);
        check.is("dough: none came out", dough.whole(7) + dough.whole(5) + dough.whole(9), 0);
        check.is("dough: none wait", dough.whole(3), 0);
        check.is("dough: a day", dough.whole(1), 1);
        check.is("dough: wood", dough.household(0, 1), 1);
        check.is("dough: answer", Setup.run(Setup.with(1), "bring 0 0 1;bake 1;"), 2);
    }

    private static void bakeOddHeats() {
        OvenDays x = day(15, 0, 0, 8);
        check.is("170 less 48, halved", x.whole(2), 61);
        loads("bread at 301 waits a tick", dayAfter(x, 24, 1), 1, 296, 271);
        x.undo();
        x.undo();
        loads("rusks at 201 wait a tick", dayAfter(x, 14, 2), 2, 196, 156);
        OvenDays y = day(25, 8, 0, 0);
        check.is("270 less 12, halved", y.whole(2), 129);
        loads("flat bread at 259", dayAfter(y, 13, 0));
        y.undo();
        y.undo();
        loads("bread at 179", dayAfter(y, 5, 1));
        y.undo();
        y.undo();
        y.bring(0, 1, 12);
        y.bring(0, 1, 12);
        y.bake(6);
        check.is("bread out at 149", y.load(0, 4), 149);
        check.is("is pale", y.whole(8), 24);
        y.undo();
        check.is("undo of pale ones", y.whole(8), 0);
        y.undo();
        y.undo();
        dayAfter(y, 1, 0);
        check.is("139, halved and rounded down", y.whole(2), 69);
        loads("rusks at 89", dayAfter(y, 2, 2));
        y.undo();
        y.undo();
        loads("rusks at 99", dayAfter(y, 3, 2), 2, 99, 59);
        check.is("rusks out at 59 are pale", y.whole(8), 1);
    }

    private static OvenDays dayAfter(OvenDays x, int wood, int kind) {
        x.bring(0, kind, 1);
        x.bake(wood);
        return x;
    }

    private static void bakePale() {
        check.is("bread out at 150 is good", paleOf(16, 1, 8), 0);
        check.is("bread out at 145 is pale", paleOf(16, 1, 12, 4), 16);
        check.is("bread out at 140 is pale", paleOf(16, 1, 12, 12), 24);
        check.is("rusks out at 60 are good", paleOf(8, 2, 7), 0);
        check.is("rusks out at 52 are pale", paleOf(8, 2, 8), 8);
        check.is("rusks out at 50 are pale", paleOf(7, 2, 7), 7);
        check.is("flat bread out at 244 is good", paleOf(24, 0, 12, 12), 0);
    }

    private static int paleOf(int wood, int kind, int... sizes) {
        OvenDays x = Setup.with(3);
        for (int size : sizes) {
            x.bring(0, kind, size);
        }
        x.bake(wood);
        for (int loaf = 0; loaf < x.whole(7); loaf++) {
            check.is("pale by loaf", x.loaf(loaf, 3), x.whole(8) > 0 ? 1 : 0);
        }
        return x.whole(8);
    }

    private static void bakeOrder() {
        OvenDays x = Setup.with(1, 2, 4);
        x.excuse(0);
        x.bring(0, 0, 12);
        x.bring(2, 0, 10);
        x.bring(1, 0, 12);
        x.bring(1, 0, 5);
        x.bring(0, 0, 2);
        // Household 1 brings the wood: 12 and 5 of 1; 10 of 2 does not fit; 12 of 0 does not; 2 of 0 does.
        check.is("bake", x.bake(40), 41);
        check.is("loads", x.whole(12), 2);
        check.is("batches of load 0", x.load(0, 1), 3);
        check.is("loaves of load 0", x.load(0, 2), 19);
        check.is("batches of load 1", x.load(1, 1), 2);
        check.is("loaves of load 1", x.load(1, 2), 22);
        ownersAre(x, 17, 1, 2, 0, 10, 2, 12, 0);
        check.is("put in by 0", x.household(0, 2), 14);
        check.is("put in by 1", x.household(1, 2), 17);
        check.is("put in by 2", x.household(2, 2), 10);

        OvenDays full = Setup.with(1);
        for (int size : new int[] {12, 10, 5, 2, 1}) {
            full.bring(0, 1, size);
        }
        full.bake(25);
        check.is("a load that is full: loaves", full.load(0, 2), 24);
        check.is("a load that is full: batches", full.load(0, 1), 3);
        check.is("a load that is full: the rest", full.load(1, 2), 6);
        check.is("a load that is full: falls by 8 a tick", full.load(0, 4), 270 - 40);
    }

    private static void ownersAre(OvenDays x, int... countsAndOwners) {
        int loaf = 0;
        for (int index = 0; index < countsAndOwners.length; index += 2) {
            for (int many = 0; many < countsAndOwners[index]; many++) {
                check.is("owner of loaf " + loaf, x.loaf(loaf, 0), countsAndOwners[index + 1]);
                loaf++;
            }
        }
    }

    private static void bakeWood() {
        OvenDays x = Setup.with(1, 2);
        x.bring(1, 0, 2);
        x.bake(30);
        check.is("wood of 0", x.household(0, 1), 30);
        check.is("wood", x.whole(4), 30);
        check.is("next by due", x.nextForWood(), 1);
        x.bring(1, 0, 1);
        x.bake(12);
        check.is("wood of 1", x.household(1, 1), 12);
        check.is("all wood", x.whole(4), 42);
        check.is("days", x.whole(1), 2);
        check.is("day of the first loaf", x.loaf(0, 2), 0);
        check.is("day of the last loaf", x.loaf(2, 2), 1);
    }

    private static void bakePrints() {
        OvenDays x = Setup.with(65535);
        // Two losses of the same groove, then three of others; then none.
        x.setS(Setup.seedFor(4, 2, 16, 5, 16, 5));
        x.bring(0, 0, 1);
        x.bake(40);
        check.is("print with groove 5 lost twice", x.loaf(0, 4), 65535 - 32);
        check.is("its lost grooves", x.loaf(0, 6), 1);
        x.setS(Setup.seedFor(4, 3, 16, 0, 16, 15, 16, 1));
        x.bring(0, 0, 1);
        x.bake(40);
        check.is("print without 0, 1 and 15", x.loaf(1, 4), 65535 - 32768 - 3);
        check.is("its three lost grooves", x.loaf(1, 6), 3);
        x.remark(0, 2);
        check.is("lost grooves stay by the mark of then", x.loaf(1, 6), 3);
        x.setS(Setup.seedFor(4, 1, 16, 1, 4, 0));
        x.bring(0, 0, 2);
        x.bake(40);
        check.is("print of nothing", x.loaf(2, 4), 0);
        check.is("lost groove of nothing", x.loaf(2, 6), 1);
        check.is("print of the next loaf", x.loaf(3, 4), 2);
        check.is("the only one gets it", x.loaf(2, 5), 0);
    }

    /** Three households with the marks 3, 7 and 11, of which those asked bring one flat bread each. */
    private static OvenDays sorting(int seed, int... bringers) {
        OvenDays x = Setup.with(3, 7, 11);
        for (int household : bringers) {
            x.bring(household, 0, 1);
        }
        x.setS(seed);
        x.bake(30);
        return x;
    }

    private static void bakeSorting() {
        int secondLosesGroove2 = Setup.seedFor(4, 0, 4, 1, 16, 2, 4, 0);
        OvenDays x = sorting(secondLosesGroove2, 0, 1, 2);
        check.is("print of loaf 1", x.loaf(1, 4), 3);
        check.is("holder of loaf 0", x.loaf(0, 5), 0);
        check.is("the smallest distance gets it", x.loaf(1, 5), 0);
        check.is("a mark without all grooves gets none", x.loaf(2, 5), 2);

        int firstLosesGroove2 = Setup.seedFor(4, 1, 16, 2, 4, 0);
        OvenDays doubtful = sorting(firstLosesGroove2, 1, 2);
        check.is("print of the doubtful one", doubtful.loaf(0, 4), 3);
        check.is("equal distances: the shelf", doubtful.loaf(0, 5), OvenDays.SHELF);
        check.is("the other one is clear", doubtful.loaf(1, 5), 2);
        check.is("on the shelf", doubtful.whole(10), 1);

        OvenDays only = sorting(firstLosesGroove2, 1);
        check.is("only those that baked may be meant", only.loaf(0, 5), 1);

        // A household whose batch became dough had none in the oven.
        OvenDays dough = Setup.with(3, 7);
        dough.bring(0, 1, 1);
        dough.bring(1, 2, 1);
        dough.setS(firstLosesGroove2);
        dough.bake(7);
        check.is("dough of 0", dough.whole(6), 1);
        check.is("print", dough.loaf(0, 4), 3);
        check.is("not to the one with dough", dough.loaf(0, 5), 1);
    }

    private static void bakeKeeps() {
        OvenDays x = Setup.with(1);
        int out = 0;
        for (int day = 0; day < 3; day++) {
            for (int batch = 0; batch < 6; batch++) {
                x.bring(0, 0, 12);
            }
            out += x.bake(40);
        }
        check.is("loaves that came out", out, 216);
        check.is("came out", x.whole(7), 216);
        check.is("kept", x.whole(9), 200);
        check.refuses("loaf 15 is dropped", INDEX, () -> x.loaf(15, 0));
        check.is("loaf 16 is kept", x.loaf(16, 2), 0);
        check.is("loaf 71", x.loaf(71, 2), 0);
        check.is("loaf 72", x.loaf(72, 2), 1);
        check.is("loaf 215", x.loaf(215, 2), 2);
        check.is("owned", x.household(0, 4), 200);

        OvenDays great = great();
        int total = great.whole(7);
        check.isTrue("more than 200 came out on one day: " + total, total > 200);
        check.is("kept of the great day", great.whole(9), 200);
        check.is("first kept of the great day", great.loaf(total - 200, 2), 0);
        check.refuses("dropped on the great day", INDEX, () -> great.loaf(total - 201, 0));
        check.is("held of the great day", great.household(0, 5) + great.household(1, 5)
                + great.whole(10), 200);
    }

    private static OvenDays great() {
        OvenDays x = Setup.with(1, 2);
        for (int batch = 0; batch < 20; batch++) {
            x.bring(batch % 2, batch < 14 ? 0 : batch < 16 ? 1 : 2, 12);
        }
        x.bake(40);
        return x;
    }

    // ---- promises 9, 10 and 11

    /** Loaf 1 is that of household 1 and has gone to household 0, since it lost groove 2. */
    private static OvenDays mistaken() {
        return sorting(Setup.seedFor(4, 0, 4, 1, 16, 2, 4, 0), 0, 1, 2);
    }

    private static void claim() {
        OvenDays x = mistaken();
        check.is("nothing on the shelf", x.claim(1), 0);
        check.is("returned", x.returnLoaves(0), 1);
        refusedWithoutChange("claim(3)", INDEX, x, () -> x.claim(3));
        refusedWithoutChange("claim(-1)", INDEX, x, () -> x.claim(-1));
        check.is("0 lacks nothing", x.claim(0), 0);
        x.remark(1, 5);
        check.is("a mark that lacks a groove of the print", x.claim(1), 0);
        x.remark(1, 23);
        check.is("a mark that has the grooves of the print", x.claim(1), 1);
        check.is("holder", x.loaf(1, 5), 1);
        check.is("claims once", x.claim(1), 0);
        x.undo();
        check.is("undo of claim", x.undo(), 2);
        check.is("on the shelf again", x.loaf(1, 5), OvenDays.SHELF);

        // Two doubtful loaves of household 0 and one of household 1: the lowest numbers go first, whoever owns.
        OvenDays shelf = Setup.with(7, 11);
        shelf.bring(0, 0, 2);
        shelf.bring(1, 0, 2);
        shelf.setS(Setup.seedFor(4, 1, 16, 2, 4, 0, 4, 1, 16, 3, 4, 0));
        shelf.bake(40);
        check.is("two on the shelf", shelf.whole(10), 2);
        check.is("claim of 1", shelf.claim(1), 1);
        check.is("the lowest number went to it", shelf.loaf(0, 5), 1);
        check.is("the other one is there", shelf.loaf(2, 5), OvenDays.SHELF);
        check.is("held by others", shelf.whole(11), 1);
        check.is("claim of 0", shelf.claim(0), 1);
        check.is("the other one went to 0", shelf.loaf(2, 5), 0);
        check.is("held by others now", shelf.whole(11), 2);

        // A loaf of another kind does not make up for it.
        OvenDays kinds = Setup.with(7, 11);
        kinds.bring(0, 0, 1);
        kinds.bring(1, 1, 1);
        kinds.setS(Setup.seedFor(4, 1, 16, 2, 4, 1, 16, 3));
        kinds.bake(26);
        check.is("both on the shelf", kinds.whole(10), 2);
        check.is("claim by kinds", kinds.claim(1), 1);
        check.is("only its kind", kinds.loaf(1, 5), 1);
        check.is("the other kind stays", kinds.loaf(0, 5), OvenDays.SHELF);
    }

    private static void returnLoaves() {
        OvenDays x = mistaken();
        check.is("balance of 0", x.balance(0, 0), -1);
        refusedWithoutChange("returnLoaves(3)", INDEX, x, () -> x.returnLoaves(3));
        refusedWithoutChange("returnLoaves(-1)", INDEX, x, () -> x.returnLoaves(-1));
        check.is("1 has nothing to return", x.returnLoaves(1), 0);
        check.is("0 returns", x.returnLoaves(0), 1);
        check.is("its own stays", x.loaf(0, 5), 0);
        check.is("the other one is on the shelf", x.loaf(1, 5), OvenDays.SHELF);
        check.is("balance after", x.balance(0, 0), 0);
        check.is("undo of returnLoaves", x.undo(), 3);
        check.is("holder after undo", x.loaf(1, 5), 0);

        // Household 0 gets two foreign loaves, and then loses one of its own: of a balance of -1 it returns
        // only the one with the greatest number.
        OvenDays two = Setup.with(3, 7, 19);
        two.bring(0, 0, 1);
        two.bring(1, 0, 2);
        two.bring(2, 0, 1);
        two.setS(Setup.seedFor(4, 0, 4, 1, 16, 2, 4, 0, 4, 1, 16, 4));
        two.bake(40);
        check.is("0 holds three", two.household(0, 5), 3);
        check.is("balance of two", two.balance(0, 0), -2);
        OvenDays one = Setup.with(3, 7);
        one.bring(0, 0, 1);
        one.bring(1, 0, 2);
        one.setS(Setup.seedFor(4, 0, 4, 1, 16, 2, 4, 1, 16, 2));
        one.bake(40);
        one.bring(0, 0, 1);
        one.remark(1, 12);
        one.remark(0, 7);
        one.bring(1, 0, 1);
        one.remark(0, 11);
        one.setS(Setup.seedFor(4, 2, 16, 0, 16, 1, 4, 0));
        check.is("balance before", one.balance(0, 0), -2);
        one.excuse(1);
        one.bake(40);
        check.is("next print", one.loaf(3, 4), 8);
        check.is("its own has gone to 1", one.loaf(3, 5), 1);
        check.is("balance with one lost", one.balance(0, 0), -1);
        check.is("returns one", one.returnLoaves(0), 1);
        check.is("the greatest number", one.loaf(2, 5), OvenDays.SHELF);
        check.is("not the lower one", one.loaf(1, 5), 0);
        check.is("returns no more", one.returnLoaves(0), 0);
        check.is("returns both", two.returnLoaves(0), 2);

        OvenDays first = Setup.with(3, 7);
        first.excuse(0);
        first.bring(0, 0, 1);
        first.bring(1, 0, 1);
        first.setS(Setup.seedFor(4, 1, 16, 2, 4, 0));
        first.bake(40);
        check.is("the first kept loaf is held by 0", first.loaf(0, 5), 0);
        check.is("and returned", first.returnLoaves(0), 1);
        check.is("to the shelf", first.loaf(0, 5), OvenDays.SHELF);
        check.is("and given away", first.giveAway(), 1);
        check.is("to nobody", first.loaf(0, 5), OvenDays.NONE);
    }

    private static void giveAway() {
        OvenDays x = mistaken();
        check.is("nothing to give", x.giveAway(), 0);
        x.returnLoaves(0);
        check.is("one to give", x.giveAway(), 1);
        check.is("nobody holds it", x.loaf(1, 5), OvenDays.NONE);
        check.is("the shelf is empty", x.whole(10), 0);
        check.is("others do not hold it", x.whole(11), 0);
        check.is("the owner still lacks it", x.balance(1, 0), 1);
        check.is("and does not get it", x.claim(1), 0);
        check.is("others keep theirs", x.loaf(0, 5) + x.loaf(2, 5), 2);
        x.undo();
        check.is("undo of giveAway", x.undo(), 2);
        check.is("on the shelf after undo", x.whole(10), 1);
        OvenDays empty = new OvenDays();
        check.is("giveAway without loaves", empty.giveAway(), 0);
        check.is("it saved a state", empty.undo(), 0);
    }

    // ---- promises 12 to 19

    private static void household() {
        OvenDays x = mistaken();
        x.bring(0, 2, 5);
        x.bring(1, 2, 4);
        x.bring(0, 0, 3);
        x.excuse(1);
        int[][] due = {{3, 30, 1, 0, 1, 2, 1, 2}, {7, 0, 1, 1, 1, 0, 0, 1}, {11, 0, 1, 0, 1, 1, 1, 0}};
        for (int household = 0; household < 3; household++) {
            for (int what = 0; what < 8; what++) {
                check.is("household(" + household + ", " + what + ")", x.household(household, what),
                        due[household][what]);
            }
        }
        check.refuses("household(3, 0)", INDEX, () -> x.household(3, 0));
        check.refuses("household(3, 8)", INDEX, () -> x.household(3, 8));
        check.refuses("household(8, 0)", INDEX, () -> x.household(8, 0));
        check.refuses("household(0, 8)", ARGUMENT, () -> x.household(0, 8));
        for (int below : BELOW_0) {
            check.refuses("household(-1, 0)", INDEX, () -> x.household(below, 0));
            check.refuses("household(0, -1)", ARGUMENT, () -> x.household(0, below));
        }
    }

    private static void due() {
        OvenDays x = Setup.with(1, 2);
        check.is("due at first", x.due(0), 0);
        x.bring(0, 0, 5);
        x.bring(1, 0, 3);
        x.bake(30);
        // wood 30, loaves 8: 30 * 5 - 8 * 30, and 30 * 3 - 8 * 0.
        check.is("due of 0", x.due(0), -90);
        check.is("due of 1", x.due(1), 90);
        check.refuses("due(2)", INDEX, () -> x.due(2));
        check.refuses("due(-1)", INDEX, () -> x.due(-1));
    }

    private static void nextForWood() {
        OvenDays x = new OvenDays();
        check.is("none", x.nextForWood(), OvenDays.NONE);
        x.join(1);
        x.join(2);
        x.join(4);
        check.is("the lowest number of equals", x.nextForWood(), 0);
        x.bring(1, 0, 3);
        x.bring(2, 0, 2);
        x.bake(30);
        check.is("the greatest due", x.nextForWood(), 1);
        x.excuse(1);
        check.is("the greatest that is not excused", x.nextForWood(), 2);
        x.excuse(2);
        check.is("with a negative due, but not excused", x.nextForWood(), 0);
        x.excuse(0);
        check.is("all excused", x.nextForWood(), 1);
        x.bring(2, 0, 1);
        x.bake(24);
        // wood 54, loaves 6: household 1 has 54 * 3 - 6 * 24 = 18, household 2 has 54 * 3.
        check.is("by wood and loaves", x.nextForWood(), 2);
    }

    private static void balance() {
        OvenDays x = mistaken();
        int[][] due = {{-1, 0, 0}, {1, 0, 0}, {0, 0, 0}};
        for (int household = 0; household < 3; household++) {
            for (int kind = 0; kind < 3; kind++) {
                check.is("balance(" + household + ", " + kind + ")", x.balance(household, kind),
                        due[household][kind]);
            }
        }
        check.refuses("balance(3, 0)", INDEX, () -> x.balance(3, 0));
        check.refuses("balance(3, 3)", INDEX, () -> x.balance(3, 3));
        check.refuses("balance(-1, 0)", INDEX, () -> x.balance(-1, 0));
        check.refuses("balance(0, 3)", ARGUMENT, () -> x.balance(0, 3));
        check.refuses("balance(0, -1)", ARGUMENT, () -> x.balance(0, -1));
    }

    private static void batch() {
        OvenDays x = Setup.with(1, 2, 4);
        x.excuse(0);
        x.bring(0, 2, 4);
        x.bring(2, 0, 5);
        x.bring(1, 1, 6);
        x.bring(0, 0, 7);
        x.bring(1, 2, 8);
        int[][] due = {{0, 2, 4, 3}, {2, 0, 5, 2}, {1, 1, 6, 0}, {0, 0, 7, 4}, {1, 2, 8, 1}};
        for (int batch = 0; batch < 5; batch++) {
            for (int what = 0; what < 4; what++) {
                check.is("batch(" + batch + ", " + what + ")", x.batch(batch, what), due[batch][what]);
            }
        }
        check.is("batch(5, 3)", x.batch(5, 3), OvenDays.NONE);
        check.is("batch(20, 0)", x.batch(20, 0), OvenDays.NONE);
        check.is("batch(MAX, 0)", x.batch(Integer.MAX_VALUE, 0), OvenDays.NONE);
        check.refuses("batch(5, 4)", ARGUMENT, () -> x.batch(5, 4));
        for (int below : BELOW_0) {
            check.refuses("batch(-1, 0)", ARGUMENT, () -> x.batch(below, 0));
            check.refuses("batch(0, -1)", ARGUMENT, () -> x.batch(0, below));
        }
    }

    private static void loaf() {
        OvenDays x = mistaken();
        int[][] due = {{0, 0, 0, 0, 3, 0, 0}, {1, 0, 0, 0, 3, 0, 1}, {2, 0, 0, 0, 11, 2, 0}};
        for (int loaf = 0; loaf < 3; loaf++) {
            for (int what = 0; what < 7; what++) {
                check.is("loaf(" + loaf + ", " + what + ")", x.loaf(loaf, what), due[loaf][what]);
            }
        }
        check.refuses("loaf(3, 0)", INDEX, () -> x.loaf(3, 0));
        check.refuses("loaf(3, 7)", INDEX, () -> x.loaf(3, 7));
        check.refuses("loaf(0, 7)", ARGUMENT, () -> x.loaf(0, 7));
        check.refuses("loaf(MAX, 0)", INDEX, () -> x.loaf(Integer.MAX_VALUE, 0));
        for (int below : BELOW_0) {
            check.refuses("loaf(-1, 0)", INDEX, () -> x.loaf(below, 0));
            check.refuses("loaf(0, -1)", ARGUMENT, () -> x.loaf(0, below));
        }
        OvenDays pale = Setup.with(1);
        pale.bring(0, 2, 1);
        pale.bake(7);
        check.is("a pale one", pale.loaf(0, 3), 1);
        check.is("its kind", pale.loaf(0, 1), 2);
    }

    private static void load() {
        OvenDays x = day(24, 1, 12, 8);
        int[][] due = {{0, 1, 1, 260, 250}, {1, 1, 12, 250, 220}, {2, 1, 8, 200, 152}};
        for (int load = 0; load < 3; load++) {
            for (int what = 0; what < 5; what++) {
                check.is("load(" + load + ", " + what + ")", x.load(load, what), due[load][what]);
            }
        }
        check.is("load(3, 0)", x.load(3, 0), OvenDays.NONE);
        check.is("load(MAX, 0)", x.load(Integer.MAX_VALUE, 0), OvenDays.NONE);
        check.refuses("load(3, 5)", ARGUMENT, () -> x.load(3, 5));
        for (int below : BELOW_0) {
            check.refuses("load(-1, 0)", ARGUMENT, () -> x.load(below, 0));
            check.refuses("load(0, -1)", ARGUMENT, () -> x.load(0, below));
        }
        x.bring(0, 0, 1);
        x.bake(1);
        check.is("only the latest day", x.load(0, 0), OvenDays.NONE);
        x.undo();
        check.is("the day before, after undo", x.load(2, 2), 8);
    }

    private static void whole() {
        OvenDays x = mistaken();
        x.returnLoaves(0);
        x.bring(1, 2, 7);
        x.bring(1, 0, 2);
        // Household 1 has the lowest number of those with the greatest due, and brings the wood.
        x.bake(1);
        x.bring(2, 2, 4);
        x.setS(99);
        // 320 - 10 is halved at the end of the first day; rusks take 40 from 165 on the second.
        int[] due = {3, 2, (155 + 10 - 40) / 2, 1, 31, 10, 2, 10, 0, 10, 1, 0, 1, 99};
        for (int what = 0; what < due.length; what++) {
            check.is("whole(" + what + ")", x.whole(what), due[what]);
        }
        check.is("whole(11) with one mistaken", mistaken().whole(11), 1);
        check.is("whole(8) with seven pale ones", day(7, 0, 0, 7).whole(8), 7);
        check.refuses("whole(14)", ARGUMENT, () -> x.whole(14));
        for (int below : BELOW_0) {
            check.refuses("whole(-1)", ARGUMENT, () -> x.whole(below));
        }
    }

    // ---- promises 20 to 23

    private static void doughWith() {
        OvenDays x = Setup.with(1, 2);
        check.is("no batch", x.doughWith(1), 0);
        x.bring(0, 0, 3);
        x.bring(1, 1, 5);
        x.bring(0, 2, 4);
        long before = x.digest();
        check.is("doughWith(1)", x.doughWith(1), 12);
        check.is("doughWith(6)", x.doughWith(6), 12);
        check.is("doughWith(7)", x.doughWith(7), 8);
        check.is("doughWith(15)", x.doughWith(15), 8);
        check.is("doughWith(16)", x.doughWith(16), 3);
        check.is("doughWith(23)", x.doughWith(23), 3);
        check.is("doughWith(24)", x.doughWith(24), 0);
        check.is("doughWith(40)", x.doughWith(40), 0);
        check.is("nothing changed", x.digest(), before);
        x.doughWith(1);
        loads("a day after a question", dayAfter(x, 24, 2), 0, 260, 250, 1, 250, 225, 2, 200, 160);
        x.undo();
        x.undo();
        for (int wood : new int[] {0, 41, -1, Integer.MAX_VALUE}) {
            check.refuses("doughWith(" + wood + ")", ARGUMENT, () -> x.doughWith(wood));
            check.refuses("doughWith(" + wood + ") without batches", ARGUMENT, () -> new OvenDays().doughWith(wood));
        }
        for (int wood = 1; wood <= 40; wood++) {
            int dough = x.doughWith(wood);
            x.bake(wood);
            check.is("dough after bake(" + wood + ")", x.whole(6), dough);
            x.undo();
        }
    }

    private static void bestWood() {
        OvenDays x = Setup.with(1, 2);
        check.is("no batch", x.bestWood(), OvenDays.NONE);
        x.bring(0, 2, 4);
        check.is("rusks", x.bestWood(), 7);
        x.bring(1, 1, 5);
        check.is("bread and rusks", x.bestWood(), 16);
        x.bring(1, 0, 5);
        long before = x.digest();
        check.is("all three", x.bestWood(), 24);
        check.is("nothing changed", x.digest(), before);
        x.bake(24);
        // (200 - 8 * 5) / 2 is 80: one piece makes it warm enough for rusks.
        x.bring(0, 2, 1);
        check.is("a warm oven", x.bestWood(), 1);
        x.bake(2);
        // (100 - 40) / 2 is 30; the next morning wants 6 pieces, and an oven of 77 wants 2.
        x.bring(0, 2, 1);
        check.is("a cool oven", x.bestWood(), 6);
        OvenDays two = day(16, 0, 1, 0);
        two.bring(0, 2, 1);
        check.is("one piece less than needed", two.doughWith(1), 1);
        check.is("an oven of 77", two.bestWood(), 2);
        x.takeBack(0);
        for (int batch = 0; batch < 20; batch++) {
            x.bring(0, 2, 12);
        }
        int least = Integer.MAX_VALUE;
        int best = 0;
        for (int wood = 40; wood >= 1; wood--) {
            if (x.doughWith(wood) <= least) {
                least = x.doughWith(wood);
                best = wood;
            }
        }
        check.isTrue("some dough in any case", least > 0);
        check.is("the least wood of equals", x.bestWood(), best);
    }

    private static void likeMarks() {
        OvenDays x = new OvenDays();
        check.is("none", x.likeMarks(), 0);
        x.join(3);
        check.is("one", x.likeMarks(), 0);
        x.join(5);
        check.is("neither has all of the other", x.likeMarks(), 0);
        x.join(7);
        check.is("the later has all of both", x.likeMarks(), 2);
        x.join(1);
        check.is("the later is in all", x.likeMarks(), 5);
        x.join(8);
        check.is("apart", x.likeMarks(), 5);
        x.remark(4, 65535);
        check.is("after a remark", x.likeMarks(), 9);
    }

    private static void freeMark() {
        OvenDays x = new OvenDays();
        check.is("the least of one groove", x.freeMark(1), 1);
        check.is("the least of 16 grooves", x.freeMark(16), 65535);
        check.is("the least of 15 grooves", x.freeMark(15), 32767);
        x.join(6);
        check.is("one groove beside 6", x.freeMark(1), 1);
        check.is("two grooves beside 6", x.freeMark(2), 3);
        check.is("three grooves beside 6", x.freeMark(3), 11);
        check.is("16 grooves beside 6", x.freeMark(16), OvenDays.NONE);
        check.is("15 grooves beside 6", x.freeMark(15), 65535 - 4);
        x.join(1);
        check.is("one groove beside 6 and 1", x.freeMark(1), 8);
        check.is("two grooves beside 6 and 1", x.freeMark(2), 10);
        x.remark(0, 65535);
        for (int grooves = 1; grooves <= 16; grooves++) {
            check.is("none beside all", x.freeMark(grooves), OvenDays.NONE);
        }
        OvenDays all = Setup.with(32768);
        check.is("without groove 15", all.freeMark(15), 32767);
        check.is("none of 16 without groove 15", all.freeMark(16), OvenDays.NONE);
        for (int grooves : new int[] {0, 17, -1, Integer.MIN_VALUE, Integer.MAX_VALUE}) {
            check.refuses("freeMark(" + grooves + ")", ARGUMENT, () -> x.freeMark(grooves));
        }
    }

    // ---- promises 24 to 27

    private static void type() {
        OvenDays x = new OvenDays();
        for (int value : new int[] {-1, 128, 255, Integer.MIN_VALUE, Integer.MAX_VALUE}) {
            refusedWithoutChange("type(" + value + ")", ARGUMENT, x, () -> x.type(value));
        }
        check.is("type(0)", x.type(0), 1);
        check.is("type(127)", x.type(127), 2);
        for (int length = 3; length <= 150; length++) {
            check.is("type number " + length, x.type(' '), length);
        }
        refusedWithoutChange("type of a 151st", STATE, x, () -> x.type(' '));
        refusedWithoutChange("type of a 151st that is none", ARGUMENT, x, () -> x.type(128));
        check.refuses("type is not undoable", STATE, x::undo);
        x.join(1);
        check.is("undo", x.undo(), 0);
        check.is("the text is not undone", x.clearCommands(), 150);
    }

    private static void clearCommands() {
        OvenDays x = new OvenDays();
        Setup.type(x, "join 5;");
        check.is("clearCommands", x.clearCommands(), 7);
        check.is("clearCommands again", x.clearCommands(), 0);
        check.is("nothing to run", x.runCommands(), 0);
        check.is("no household", x.whole(0), 0);
        check.is("type afterwards", x.type('j'), 1);
        check.is("undo brings no text back", x.undo(), 0);
        check.is("clearCommands after undo", x.clearCommands(), 1);
        check.refuses("clearCommands is not undoable", STATE, x::undo);
    }

    private static void runCommands() {
        wordsDoTheirWork();
        faults();
        OvenDays x = new OvenDays();
        check.is("an empty text", x.runCommands(), 0);
        check.is("saves a state", x.undo(), 0);
        check.is("spaces alone", Setup.run(x, "   "), 0);
        check.is("save a state", x.undo(), 0);
        check.is("a fault", Setup.run(x, "join 1;;"), -17);
        check.refuses("saves none", STATE, x::undo);
        check.is("and does nothing", x.whole(0), 0);
        check.is("numbers with zeros in front", Setup.run(x, "join 00007;join 8 ;  join   9  ;  "), 3);
        check.is("a run saves one state", x.undo(), 0);
        check.is("from before the run", x.whole(0), 0);
        check.is("the text stays", x.runCommands(), 3);
        check.is("until the first one that would throw", x.runCommands(), 0);
        check.is("commands before it stay done", Setup.run(x, "join 20;bring 3 0 1;join 20;join 40;"), 2);
        check.is("households", x.whole(0), 4);
        check.is("batches", x.whole(3), 1);
        check.is("states", x.undo(), 2);
        check.is("both are undone", x.whole(0) * 10 + x.whole(3), 30);
        String whole = "join 1;join 2;join 3;join 4;join 5;join 6;join 7;join 8;";
        check.is("eight", Setup.run(new OvenDays(), whole), 8);
        String full = whole + "give;".repeat(18) + "    ";
        check.is("150 bytes", full.length(), 150);
        check.is("a full text", Setup.run(new OvenDays(), full), 26);
        check.is("a full text that ends too soon", Setup.run(new OvenDays(), full.substring(0, 146) + "give"), -160);
    }

    private static void wordsDoTheirWork() {
        OvenDays x = new OvenDays();
        OvenDays y = new OvenDays();
        int seed = Setup.seedFor(4, 0, 4, 1, 16, 2, 4, 0);
        x.setS(seed);
        y.setS(seed);
        check.is("run", Setup.run(x, "join 3;join 7;join 11;excuse 0;bring 0 0 1;bring 1 0 1;bring 2 0 1;bake 30;"), 8);
        y.join(3);
        y.join(7);
        y.join(11);
        y.excuse(0);
        y.bring(0, 0, 1);
        y.bring(1, 0, 1);
        y.bring(2, 0, 1);
        y.bake(30);
        sameVillage("after a day", x, y);
        check.is("return", Setup.run(x, "return 0;return 1;return 2;"), 3);
        y.returnLoaves(0);
        y.returnLoaves(1);
        y.returnLoaves(2);
        sameVillage("after return", x, y);
        check.is("claim", Setup.run(x, "claim 0;claim 1;claim 2;"), 3);
        y.claim(0);
        y.claim(1);
        y.claim(2);
        sameVillage("after claim", x, y);
        OvenDays shelf = mistaken();
        check.is("return and give", Setup.run(shelf, "return 0;give;"), 2);
        check.is("given away", shelf.loaf(1, 5), OvenDays.NONE);
        shelf.undo();
        check.is("return and claim", Setup.run(shelf, "return 0;claim 1;"), 2);
        check.is("claimed", shelf.loaf(1, 5), 1);
    }

    private static void sameVillage(String what, OvenDays x, OvenDays y) {
        check.is("the same " + what, Setup.digestOf(x, 0, 0), Setup.digestOf(y, 0, 0));
    }

    private static void faults() {
        fault("j", 0);
        fault("joi", 0);
        fault("join", 4);
        fault("  join", 6);
        fault("joins 1;", 0);
        fault("  joins 1;", 2);
        fault("join;", 4);
        fault("join1;", 4);
        fault("join ;", 5);
        fault("join  ", 6);
        fault("join 1", 6);
        fault("join 1 ", 7);
        fault("join 12345", 10);
        fault("join 123456;", 10);
        fault("join 000001;", 10);
        fault("join 1 2;", 7);
        fault("join 1,", 6);
        fault("join -1;", 5);
        fault("Join 1;", 0);
        fault("joIn 1;", 0);
        fault("join 1;5", 7);
        fault(";", 0);
        fault(" ;", 1);
        fault("give;;", 5);
        fault("give 1;", 5);
        fault("give x;", 5);
        fault("give1;", 4);
        fault("give", 4);
        fault("givee", 0);
        fault("givegive;", 0);
        fault("joinz 1;", 0);
        fault("zjoin 1;", 0);
        fault("ajoin 1;", 0);
        fault("joina 1;", 0);
        fault("xoin 1;", 0);
        fault("joix 1;", 0);
        fault("join{1;", 4);
        fault("join`1;", 4);
        fault("join /;", 5);
        fault("join :;", 5);
        fault("bring 0 1;", 9);
        fault("bring 0 1 ;", 10);
        fault("bring 0 1", 9);
        fault("bring 0 1 5", 11);
        fault("bring 0 1 5 6;", 12);
        fault("bring 0,1 5;", 7);
        fault("bring 0 1 5x", 11);
        fault("returnloaves 0;", 0);
        fault("join\t1;", 4);
        fault("\n", 0);
        fault("join 1;bake", 11);
        fault("join 1; bakes", 8);
        fault("claim 99999999;", 11);
        noFault("");
        noFault(" ");
        noFault("give;");
        noFault("give ;");
        noFault("  give  ;  ");
        noFault("give;give;");
        noFault("give; give ; ");
        noFault("claim 99999;");
        noFault("bring   0   1   5   ;");
        noFault("excuse 00000;return 0;claim 0;bake 0;join 0;");
    }

    private static void fault(String text, int fault) {
        OvenDays x = new OvenDays();
        check.is("fault of '" + text + "'", Setup.run(x, text), -10 - fault);
        check.refuses("no state saved by '" + text + "'", STATE, x::undo);
    }

    private static void noFault(String text) {
        OvenDays x = new OvenDays();
        check.isTrue("no fault of '" + text + "'", Setup.run(x, text) >= 0);
        check.is("a state saved by '" + text + "'", x.undo(), 0);
    }

    private static void stop() {
        OvenDays x = new OvenDays();
        check.is("no run", x.stop(), 0);
        stopsWith(x, "join 1;", 1, 0);
        stopsWith(x, "bring 1 0 1;", 0, 1);
        stopsWith(x, "excuse 1;", 0, 1);
        stopsWith(x, "give;claim 1;", 1, 1);
        stopsWith(x, "return 99999;", 0, 1);
        stopsWith(x, "join 0;", 0, 2);
        stopsWith(x, "join 65536;", 0, 2);
        stopsWith(x, "join 65535;join 99999;", 1, 2);
        stopsWith(x, "bring 0 3 1;", 0, 2);
        stopsWith(x, "bring 0 0 13;", 0, 2);
        stopsWith(x, "bring 2 3 13;", 0, 1);
        stopsWith(x, "bake 41;", 0, 2);
        stopsWith(x, "bake 0;", 0, 2);
        stopsWith(x, "bake 40;", 0, 3);
        stopsWith(x, "join 1;", 0, 3);
        check.is("a fault leaves it", Setup.run(x, "bake"), -14);
        check.is("stop after a fault", x.stop(), 3);
        x.undo();
        check.is("undo leaves it", x.stop(), 3);
        x.clearCommands();
        x.join(77);
        check.is("calls leave it", x.stop(), 3);
        stopsWith(x, "", 0, 0);
    }

    private static void stopsWith(OvenDays x, String text, int done, int stop) {
        check.is("run of '" + text + "'", Setup.run(x, text), done);
        check.is("stop of '" + text + "'", x.stop(), stop);
    }

    // ---- promises 28 and 29

    private static void undo() {
        OvenDays x = new OvenDays();
        refusedWithoutChange("undo of nothing", STATE, x, x::undo);
        for (int mark = 1; mark <= 6; mark++) {
            x.join(mark);
        }
        for (int left = 3; left >= 0; left--) {
            check.is("undo", x.undo(), left);
            check.is("households", x.whole(0), left + 2);
        }
        refusedWithoutChange("undo of a dropped state", STATE, x, x::undo);
        x.join(10);
        x.join(11);
        check.is("undo of two", x.undo(), 1);
        x.join(12);
        check.is("undo of the new one", x.undo(), 1);
        check.is("undo of the first", x.undo(), 0);
        check.is("households at last", x.whole(0), 2);

        for (int calls = 3; calls >= 0; calls--) {
            OvenDays undone = afterSome(4);
            for (int left = 3; left >= calls; left--) {
                check.is("undo of all", undone.undo(), left);
            }
            check.is("state after " + calls, Setup.digestOf(undone, 0, 0), Setup.digestOf(afterSome(calls), 0, 0));
        }
    }

    /** A village after the first ones of four calls, each of which changes something else. */
    private static OvenDays afterSome(int calls) {
        OvenDays x = mistaken();
        x.returnLoaves(0);
        x.bring(1, 2, 9);
        x.excuse(2);
        Check.Call[] row = {() -> x.bake(9), x::giveAway, () -> x.remark(2, 99), () -> x.setS(5)};
        for (int call = 0; call < calls; call++) {
            row[call].answer();
        }
        return x;
    }

    private static void digest() {
        OvenDays x = new OvenDays();
        long empty = 43087;
        for (int value : new int[] {0, 0, 0, 0, 0, 20, 0, 0, 0, 0, 0, 0, 0, 0, 0, 0, 1, -1, 0}) {
            empty = 31 * empty + value;
        }
        check.is("digest of a new object", x.digest(), empty);
        check.is("by the other methods", Setup.digestOf(x, 0, 0), empty);
        x.join(3);
        check.is("with one state", x.digest(), Setup.digestOf(x, 1, 0));
        Setup.type(x, "bake 1;");
        check.is("with a text", x.digest(), Setup.digestOf(x, 1, 7));
        x.runCommands();
        check.is("with a stop", x.digest(), Setup.digestOf(x, 2, 7));
        OvenDays loaves = mistaken();
        loaves.bring(2, 1, 3);
        loaves.bring(0, 0, 3);
        loaves.excuse(1);
        check.is("with loaves, loads and batches", loaves.digest(), Setup.digestOf(loaves, 4, 0));
        OvenDays many = great();
        check.is("with 200 loaves", many.digest(), Setup.digestOf(PromiseTest::great, 4, 0));
    }

    /** The digest tells the whole state, with the stack and the text. */
    private static void refusedWithoutChange(String what, Class<?> due, OvenDays x, Check.Call call) {
        long before = x.digest();
        check.refuses(what, due, call);
        check.is(what + " changes nothing", x.digest(), before);
    }
}

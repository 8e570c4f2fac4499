import java.util.ArrayList;
import java.util.List;

/** "LOAVES AND MARKS" and "CLAIMS", and promises 9 to 11. */
final class LoafBoundaries extends Boundaries {
    private static final String LOAVES = "LOAVES AND MARKS";
    private static final String CLAIMS = "CLAIMS";
    private static final String HOUSEHOLD_SENTENCE = "- `household`: number of a household";
    private static final String INDEX_SENTENCE = "Throws `IndexOutOfBoundsException` if there is no such household";
    private static final String PRINT = "A loaf has an owner, a kind, a day, is pale or good, and a print: at first the mark of "
            + "its owner; then a number b below 4 is drawn, and b times a number below 16, and the groove with this number is "
            + "lost from the print (it may be lost already).";
    private static final String DRAW = "To draw a number below m means: s becomes (1103515245 * s + 12345) modulo 2147483648, "
            + "and the number is (s / 65536, rounded down) modulo m.";
    private static final String MEANT = "At the end of a day its loaves are sorted, in the order of their numbers: those "
            + "households that had a batch in the oven on this day, and whose marks have all grooves of the print, may be meant.";
    private static final String TAKER = "If one of those that may be meant has a smaller distance than all others, or is the "
            + "only one, the loaf goes to it; otherwise it comes onto the shelf.";
    private static final String CLAIM = "When a household claims, for each kind in ascending order: as long as its balance is "
            + "above 0, the kept loaf of this kind with the lowest number that is on the shelf and whose print has no groove "
            + "that its mark lacks goes to it; if there is none, the next kind follows.";
    private static final String RETURN = "When a household returns, for each kind in ascending order: as long as its balance is "
            + "below 0, the kept loaf of this kind with the greatest number that it holds and does not own goes to the shelf.";
    private static final int FLAT = 0;
    private static final int BREAD = 1;
    private static final int RUSKS = 2;

    @Override
    void all() {
        numbers();
        latest200();
        latest200OfOneDay();
        shelfForgetsDropped();
        prints();
        draws();
        firstDraws();
        drawnLoafByLoaf();
        bakersOfTheDay();
        allGroovesOfThePrint();
        distance();
        smallestDistance();
        holders();
        balances();
        claimByBalance();
        claimByNumber();
        claimByGrooves();
        claimByKind();
        returnByBalance();
        returnByNumber();
        returnByKind();
        shelfGivenAway();
        claim();
        returnLoaves();
        giveAway();
    }

    // ---- the description

    private void numbers() {
        holds(LOAVES, "Loaves are numbered from 0 in the order in which they come out: those of a load by its batches in the "
                + "baking order.");
        OvenDays x = Setup.with(1, 2);
        refused("no loaf", INDEX, () -> Setup.with(1, 2), y -> y.loaf(0, 0));
        x.bring(0, BREAD, 1);
        x.bring(1, FLAT, 1);
        x.bring(0, FLAT, 2);
        x.bake(24);
        // Flat bread first, of household 0, that brought the wood, then of household 1; bread at last.
        int[] owners = {0, 0, 1, 0};
        int[] kinds = {FLAT, FLAT, FLAT, BREAD};
        for (int loaf = 0; loaf < 4; loaf++) {
            is("owner of " + loaf, x.loaf(loaf, 0), owners[loaf]);
            is("kind of " + loaf, x.loaf(loaf, 1), kinds[loaf]);
        }
        refusedHere("none behind the last", INDEX, x, y -> y.loaf(4, 0));
        x.bring(1, RUSKS, 1);
        x.bake(1);
        is("the first of the next day", x.loaf(4, 1), RUSKS);
        is("its day", x.loaf(4, 2), 1);
        refusedHere("none behind it", INDEX, x, y -> y.loaf(5, 0));
    }

    /** Loaves that come out on one day, and then some days with one loaf each; all of household 0. */
    private static OvenDays cameOut(int onFirstDay, int daysAfter) {
        OvenDays x = Setup.after(40, FLAT, onFirstDay);
        for (int day = 0; day < daysAfter; day++) {
            Setup.day(x, 40, FLAT, 1);
        }
        return x;
    }

    private void latest200() {
        holds(LOAVES, "The latest 200 loaves are kept (on a day with more, the first ones are dropped as others come out, and "
                + "not sorted).");
        kept("one below full", () -> cameOut(199, 0), 199, 0, 198);
        kept("full", () -> cameOut(199, 1), 200, 0, 199);
        kept("one dropped", () -> cameOut(199, 2), 200, 1, 200);
        kept("two dropped", () -> cameOut(199, 3), 200, 2, 201);
        is("day of the first kept one", cameOut(199, 2).loaf(1, 2), 0);
        is("day of the last kept one", cameOut(199, 2).loaf(200, 2), 2);
        kept("all of the first day dropped", () -> {
            OvenDays x = cameOut(16, 0);
            Setup.day(x, 40, FLAT, 200);
            return x;
        }, 200, 16, 215);
        kept("one of the first day kept", () -> {
            OvenDays x = cameOut(16, 0);
            Setup.day(x, 40, FLAT, 199);
            return x;
        }, 200, 15, 214);
    }

    private void latest200OfOneDay() {
        holds(LOAVES, "The latest 200 loaves are kept (on a day with more, the first ones are dropped as others come out, and "
                + "not sorted).");
        kept("199 on a day", () -> cameOut(199, 0), 199, 0, 198);
        kept("200 on a day", () -> cameOut(200, 0), 200, 0, 199);
        kept("201 on a day", () -> cameOut(201, 0), 200, 1, 200);
        // 18 batches of 12 flat breads go in from 400 to 272; the others are dough.
        kept("216 on a day", () -> cameOut(240, 0), 200, 16, 215);
        // Loaf 0 of household 1 would go to household 0, whose mark has a smaller distance from its print.
        OvenDays x = sortedAndMany(200);
        is("a first loaf that is sorted", x.household(0, 5), 200);
        OvenDays y = sortedAndMany(201);
        is("is dropped and not sorted", y.household(0, 5), 200);
        is("all that are kept are of household 0", y.household(0, 4), 200);
        is("owned of the day before", x.household(1, 4), 1);
        is("owned, and dropped", y.household(1, 4), 0);
        is("held by another one", x.whole(11), 1);
        is("dropped, and held by nobody", y.whole(11), 0);
    }

    /** Household 1 brings the wood and the first loaf, with the print 0; household 0 brings all others. */
    private static OvenDays sortedAndMany(int loaves) {
        OvenDays x = Setup.with(1, 6);
        x.excuse(0);
        x.bring(1, FLAT, 1);
        Setup.bring(x, FLAT, loaves - 1);
        x.setS(Setup.seedFor(4, 2, 16, 1, 16, 2));
        x.bake(40);
        return x;
    }

    private static void kept(String what, Maker maker, int count, int first, int last) {
        OvenDays x = maker.make();
        is(what + ": kept", x.whole(9), count);
        is(what + ": came out", x.whole(7), last + 1);
        is(what + ": owned", x.household(0, 4), count);
        is(what + ": held", x.household(0, 5), count);
        is(what + ": the first", x.loaf(first, 0), 0);
        is(what + ": the last", x.loaf(last, 0), 0);
        refused(what + ": in front of the first", INDEX, maker, y -> y.loaf(first - 1, 0));
        refused(what + ": behind the last", INDEX, maker, y -> y.loaf(last + 1, 0));
    }

    /** Loaf 0 is on the shelf and is that of household 0; then household 0 bakes alone. */
    private static OvenDays shelfAndMany(int more) {
        OvenDays x = sorted(0, 7, 11);
        Setup.day(x, 40, FLAT, more);
        return x;
    }

    private void shelfForgetsDropped() {
        holds(CLAIMS, CLAIM);
        OvenDays x = shelfAndMany(198);
        is("kept with the first one", x.whole(9), 200);
        is("on the shelf", x.whole(10), 1);
        is("claimed", x.claim(0), 1);
        is("holder", x.loaf(0, 5), 0);
        OvenDays y = shelfAndMany(199);
        is("kept without the first one", y.whole(9), 200);
        is("on the shelf no more", y.whole(10), 0);
        is("not claimed", y.claim(0), 0);
        is("not given away", y.giveAway(), 0);
    }

    /** The village of one loaf for whose print numbers are drawn as asked. */
    private static OvenDays printed(int mark, int... boundsAndNumbers) {
        OvenDays x = Setup.with(mark);
        x.setS(Setup.seedFor(boundsAndNumbers));
        Setup.day(x, 40, FLAT, 1);
        return x;
    }

    private static void print(String what, OvenDays x, int print, int lost) {
        is(what + ": print", x.loaf(0, 4), print);
        is(what + ": lost grooves", x.loaf(0, 6), lost);
    }

    private void prints() {
        holds(LOAVES, PRINT);
        print("nothing is lost", printed(65535, 4, 0), 65535, 0);
        print("groove 0 is lost", printed(65535, 4, 1, 16, 0), 65534, 1);
        print("groove 1 is lost", printed(65535, 4, 1, 16, 1), 65533, 1);
        print("groove 14 is lost", printed(65535, 4, 1, 16, 14), 65535 - 16384, 1);
        print("groove 15 is lost", printed(65535, 4, 1, 16, 15), 32767, 1);
        print("two are lost", printed(65535, 4, 2, 16, 0, 16, 15), 32766, 2);
        print("one is lost twice", printed(65535, 4, 2, 16, 7, 16, 7), 65535 - 128, 1);
        print("three are lost", printed(65535, 4, 3, 16, 0, 16, 1, 16, 2), 65528, 3);
        print("one of three is lost twice", printed(65535, 4, 3, 16, 3, 16, 4, 16, 3), 65535 - 24, 2);
        print("one is lost three times", printed(65535, 4, 3, 16, 9, 16, 9, 16, 9), 65535 - 512, 1);
        print("one that the mark has not", printed(65534, 4, 1, 16, 0), 65534, 0);
        print("the only one is lost", printed(32768, 4, 1, 16, 15), 0, 1);
        print("the one beside the only one", printed(32768, 4, 1, 16, 14), 32768, 0);
        OvenDays x = printed(32768, 4, 1, 16, 15);
        int[] values = {0, FLAT, 0, 0, 0, 0, 1};
        for (int what = 0; what < values.length; what++) {
            is("value " + what, x.loaf(0, what), values[what]);
        }
    }

    /** The s after which the next one is as asked: 1857678181 times 1103515245 is 1 modulo 2147483648. */
    private static int before(long next) {
        return (int) (1_857_678_181L * ((next - 12_345L) & MAX) & MAX);
    }

    /** How many numbers are drawn for the loaf of a day with some s, after the first one: that one's number. */
    private static int firstNumber(int s) {
        OvenDays x = Setup.with(65535);
        x.setS(s);
        Setup.day(x, 40, FLAT, 1);
        long drawn = s;
        for (int count = 0; count <= 4; count++) {
            drawn = (1_103_515_245L * drawn + 12_345L) % 2_147_483_648L;
            if (drawn == x.whole(13)) {
                return count;
            }
        }
        return NONE;
    }

    private void draws() {
        holds(LOAVES, DRAW);
        is("the inverse factor", 1_857_678_181L * 1_103_515_245L % 2_147_483_648L, 1);
        is("s becomes 0", firstNumber(before(0)), 0);
        is("s becomes 65535", firstNumber(before(65_535)), 0);
        is("s becomes 65536", firstNumber(before(65_536)), 1);
        is("s becomes 131071", firstNumber(before(131_071)), 1);
        is("s becomes 131072", firstNumber(before(131_072)), 2);
        is("s becomes 262143", firstNumber(before(262_143)), 3);
        is("s becomes 262144", firstNumber(before(262_144)), 0);
        is("s becomes 2147483647", firstNumber(before(MAX)), 3);
        is("s becomes 2147418111", firstNumber(before(2_147_418_111L)), 2);
        OvenDays least = Setup.with(65535);
        least.setS(0);
        Setup.day(least, 40, FLAT, 1);
        is("s after 0", least.whole(13), 12_345);
        OvenDays greatest = Setup.with(65535);
        greatest.setS(MAX);
        Setup.day(greatest, 40, FLAT, 1);
        // 1043980748, of which the number is 15929, 1 modulo 4; then 288979989, of which it is 4409, 9 modulo 16.
        is("s after 2147483647", greatest.whole(13), 288_979_989);
        is("print after 2147483647", greatest.loaf(0, 4), 65_535 - 512);
        OvenDays wrapped = Setup.with(65535);
        wrapped.setS(before(0));
        Setup.day(wrapped, 40, FLAT, 1);
        is("s after the one before 0", wrapped.whole(13), 0);
        groovesAtTheEdge();
    }

    /** The second s is one below a multiple of 16 * 65536, or this multiple: groove 15 or groove 0. */
    private static void groovesAtTheEdge() {
        for (int groove : new int[] {15, 0}) {
            for (long multiple = 1; multiple < 100; multiple++) {
                int second = before(multiple * 1_048_576L - (groove == 15 ? 1 : 0));
                if (second / 65_536 % 4 == 1) {
                    OvenDays x = Setup.with(65535);
                    x.setS(before(second));
                    Setup.day(x, 40, FLAT, 1);
                    is("the only groove lost", x.loaf(0, 4), 65_535 - (1 << groove));
                    break;
                }
            }
        }
    }

    /** The numbers from 1 on are 16838, 5758, 10113, 17515, 31051, 5627, 23010, 7419, 16212, 4086, 2749, 12767, ... */
    private void firstDraws() {
        holds(LOAVES, "s is 1 at first.");
        OvenDays x = Setup.with(65535);
        is("s", x.whole(13), 1);
        Setup.day(x, 40, FLAT, 4);
        is("2, then 14 and 1", x.loaf(0, 4), 65_535 - 16_384 - 2);
        is("3, then 11, 11 and 2", x.loaf(1, 4), 65_535 - 2_048 - 4);
        is("3, then 4, 6 and 13", x.loaf(2, 4), 65_535 - 16 - 64 - 8_192);
        is("3, then 12, 12 and 1", x.loaf(3, 4), 65_535 - 4_096 - 2);
        int[] lost = {2, 2, 3, 2};
        for (int loaf = 0; loaf < 4; loaf++) {
            is("lost grooves of " + loaf, x.loaf(loaf, 6), lost[loaf]);
        }
    }

    private void drawnLoafByLoaf() {
        holds(LOAVES, "(Numbers are drawn loaf by loaf, when they come out.)");
        OvenDays x = Setup.with(65535, 32767);
        x.setS(Setup.seedFor(4, 1, 16, 3, 4, 0, 4, 2, 16, 5, 16, 6));
        x.bring(1, BREAD, 1);
        x.bring(1, FLAT, 1);
        x.bring(0, FLAT, 1);
        x.bake(30);
        is("the first of the first load", x.loaf(0, 4), 65_535 - 8);
        is("the second of the first load", x.loaf(1, 4), 32_767);
        is("the one of the second load", x.loaf(2, 4), 32_767 - 32 - 64);
        OvenDays dough = Setup.with(65535);
        Setup.day(dough, 1, FLAT, 12);
        is("nothing is drawn for dough", dough.whole(13), 1);
        // On a day with more than 200, numbers are drawn for those too that are dropped.
        OvenDays one = cameOut(201, 0);
        OvenDays two = cameOut(200, 1);
        is("of 201 loaves on one day or on two", one.whole(13), two.whole(13));
    }

    /** Each household brings a flat bread; that of one of them loses groove 2, the others nothing. */
    private static OvenDays sorted(int loser, int... marks) {
        OvenDays x = Setup.with(marks);
        List<Integer> draws = new ArrayList<>();
        for (int household = 0; household < marks.length; household++) {
            x.bring(household, FLAT, 1);
            draws.addAll(household == loser ? List.of(4, 1, 16, 2) : List.of(4, 0));
        }
        x.setS(Setup.seedFor(draws.stream().mapToInt(Integer::intValue).toArray()));
        x.bake(40);
        return x;
    }

    private void bakersOfTheDay() {
        holds(LOAVES, MEANT);
        is("both had a batch in the oven", sorted(0, 7, 3).loaf(0, 5), 1);
        OvenDays x = Setup.with(7, 3);
        x.setS(Setup.seedFor(4, 1, 16, 2));
        x.bring(0, FLAT, 1);
        x.bake(40);
        is("one had none", x.loaf(0, 5), 0);
        OvenDays dough = Setup.with(7, 3);
        dough.setS(Setup.seedFor(4, 1, 16, 2));
        dough.bring(0, RUSKS, 1);
        dough.bring(1, FLAT, 12);
        dough.bake(23);
        is("dough of 1", dough.whole(6), 12);
        is("one had dough alone", dough.loaf(0, 5), 0);
        OvenDays later = Setup.with(7, 3);
        later.setS(Setup.seedFor(4, 1, 16, 2, 4, 0));
        later.bring(0, FLAT, 1);
        later.bring(1, RUSKS, 1);
        later.bake(40);
        is("one had a batch in a later load", later.loaf(0, 5), 1);
        OvenDays yesterday = sorted(NONE, 7, 3);
        yesterday.setS(Setup.seedFor(4, 1, 16, 2));
        yesterday.bring(0, FLAT, 1);
        yesterday.bake(40);
        is("one had a batch on the day before", yesterday.loaf(2, 5), 0);
        OvenDays remarked = sorted(0, 7, 3);
        remarked.remark(1, 19);
        is("a mark of later sorts nothing again", remarked.loaf(0, 5), 1);
    }

    private void allGroovesOfThePrint() {
        holds(LOAVES, MEANT);
        is("all grooves and none more", sorted(0, 7, 3).loaf(0, 5), 1);
        is("lacks groove 0", sorted(0, 7, 2).loaf(0, 5), 0);
        is("lacks groove 1", sorted(0, 7, 1).loaf(0, 5), 0);
        is("lacks groove 1, has others", sorted(0, 7, 65533).loaf(0, 5), 0);
        is("lacks all", sorted(0, 7, 8).loaf(0, 5), 0);
        is("all grooves and one more", sorted(0, 7, 11).loaf(0, 5), SHELF);
        is("all grooves of a print without grooves", sorted(0, 4, 8).loaf(0, 5), SHELF);
        is("a print without grooves, and two marks of 1 and 2 grooves", sorted(0, 4, 24).loaf(0, 5), 0);
    }

    private void distance() {
        holds(LOAVES, "The distance of a mark is the number of its grooves that the print lacks.");
        is("0 and 1", sorted(0, 7, 3).loaf(0, 5), 1);
        is("1 and 1", sorted(0, 7, 32771).loaf(0, 5), SHELF);
        is("1 and 2", sorted(0, 7, 49155).loaf(0, 5), 0);
        is("1 and 14", sorted(0, 7, 65535).loaf(0, 5), 0);
        is("1 and 1, with a print of three grooves", sorted(0, 15, 27).loaf(0, 5), SHELF);
        is("16 grooves, one of which is lost", sorted(0, 65535, 65531).loaf(0, 5), 1);
        is("0 and 1, where nothing is lost", sorted(NONE, 3, 7).loaf(0, 5), 0);
    }

    private void smallestDistance() {
        holds(LOAVES, TAKER);
        is("only one", sorted(0, 7).loaf(0, 5), 0);
        is("only one of two", sorted(0, 7, 24).loaf(0, 5), 0);
        is("the smaller of two, the owner", sorted(0, 7, 27).loaf(0, 5), 0);
        is("the smaller of two, the other one", sorted(1, 3, 7).loaf(1, 5), 0);
        is("two equals", sorted(0, 7, 11).loaf(0, 5), SHELF);
        is("two equals, the second one owns", sorted(1, 11, 7).loaf(1, 5), SHELF);
        is("three equals", sorted(0, 7, 11, 19).loaf(0, 5), SHELF);
        is("two equals and a smaller one at last", sorted(0, 7, 11, 3).loaf(0, 5), 2);
        is("two equals and a smaller one in the middle", sorted(0, 7, 3, 11).loaf(0, 5), 1);
        is("two equals and a smaller one at first", sorted(1, 3, 7, 11).loaf(1, 5), 0);
        is("two equals and a greater one at last", sorted(0, 7, 11, 51).loaf(0, 5), SHELF);
        is("two equals and a greater one in the middle", sorted(0, 7, 51, 11).loaf(0, 5), SHELF);
        is("two equals and a greater one at first", sorted(1, 51, 7, 11).loaf(1, 5), SHELF);
        is("two equals that are greater", sorted(0, 7, 51, 99).loaf(0, 5), 0);
        is("two equals of which one is not meant", sorted(0, 7, 12).loaf(0, 5), 0);
    }

    private void holders() {
        holds(LOAVES, "A loaf has a holder: a household, the shelf (8), or NONE if it has been given away.");
        OvenDays x = sorted(0, 7, 11);
        is("the shelf", x.loaf(0, 5), 8);
        is("household 1", x.loaf(1, 5), 1);
        x.giveAway();
        is("nobody", x.loaf(0, 5), -1);
        is("household 1 still", x.loaf(1, 5), 1);
        OvenDays y = Setup.many(8);
        y.bring(7, FLAT, 1);
        y.setS(Setup.seedFor(4, 0));
        y.bake(40);
        is("household 7, the last one", y.loaf(0, 5), 7);
        is("household 0, the first one", printed(1, 4, 0).loaf(0, 5), 0);
    }

    // ---- claims

    private static void balance(String what, OvenDays x, int household, int kind, int due) {
        is(what, x.balance(household, kind), due);
    }

    private void balances() {
        holds(CLAIMS, "The balance of a household for a kind is the number of kept loaves of this kind that it owns minus the "
                + "number of those that it holds (whoever owns them).");
        balance("no loaves", Setup.with(1), 0, FLAT, 0);
        balance("its own", printed(1, 4, 0), 0, FLAT, 0);
        balance("one of its own on the shelf", sorted(0, 7, 11), 0, FLAT, 1);
        balance("none of the other one", sorted(0, 7, 11), 1, FLAT, 0);
        balance("of another kind", sorted(0, 7, 11), 0, BREAD, 0);
        balance("one of its own held by another one", sorted(0, 7, 3), 0, FLAT, 1);
        balance("one of another one", sorted(0, 7, 3), 1, FLAT, -1);
        OvenDays away = sorted(0, 7, 11);
        away.giveAway();
        balance("one of its own given away", away, 0, FLAT, 1);
        OvenDays swapped = sorted(0, 7, 3);
        swapped.returnLoaves(1);
        balance("one returned", swapped, 1, FLAT, 0);
        balance("one returned, of its owner", swapped, 0, FLAT, 1);
        balance("the last one that is kept", shelfAndMany(198), 0, FLAT, 1);
        balance("one that is kept no more", shelfAndMany(199), 0, FLAT, 0);
        balance("full", cameOut(200, 0), 0, FLAT, 0);
        OvenDays all = Setup.with(7, 3);
        all.bring(1, FLAT, 1);
        Setup.bring(all, FLAT, 3);
        all.excuse(0);
        all.setS(Setup.seedFor(4, 0, 4, 1, 16, 2, 4, 1, 16, 2, 4, 1, 16, 2));
        all.bake(40);
        balance("three of its own", all, 0, FLAT, 3);
        balance("three of another one", all, 1, FLAT, -3);
    }

    /** On the shelf: loaves 0 and 1 of household 0, and loaf 2 of household 1, with the print 3. */
    private static OvenDays threeOnShelf() {
        OvenDays x = Setup.with(7, 11);
        x.bring(0, FLAT, 2);
        x.bring(1, FLAT, 1);
        x.setS(Setup.seedFor(4, 1, 16, 2, 4, 1, 16, 2, 4, 1, 16, 3));
        x.bake(40);
        return x;
    }

    private static void holdersAre(String what, OvenDays x, int... holders) {
        for (int loaf = 0; loaf < holders.length; loaf++) {
            is(what + ": holder of " + loaf, x.loaf(loaf, 5), holders[loaf]);
        }
    }

    private void claimByBalance() {
        holds(CLAIMS, CLAIM);
        OvenDays x = threeOnShelf();
        holdersAre("at first", x, SHELF, SHELF, SHELF);
        is("balance 2, three on the shelf", x.claim(0), 2);
        holdersAre("balance 2", x, 0, 0, SHELF);
        balance("then 0", x, 0, FLAT, 0);
        is("balance 0, one on the shelf", x.claim(0), 0);
        is("balance 1, one on the shelf", x.claim(1), 1);
        holdersAre("balance 1", x, 0, 0, 1);
        is("balance 0, none on the shelf", x.claim(1), 0);
        OvenDays y = threeOnShelf();
        is("balance 1, three on the shelf", y.claim(1), 1);
        is("balance 2, two on the shelf", y.claim(0), 2);
        OvenDays z = threeOnShelf();
        z.claim(1);
        z.giveAway();
        is("balance 2, none on the shelf", z.claim(0), 0);
        holdersAre("given away", z, 1, NONE, NONE);
        // Loaf 1 has gone to household 0; on the second day household 1 brings the wood and loses one to the shelf.
        OvenDays below = sorted(1, 3, 7, 11);
        below.bring(1, FLAT, 1);
        below.bring(2, FLAT, 1);
        below.setS(Setup.seedFor(4, 1, 16, 2, 4, 0));
        below.bake(40);
        holdersAre("one on the shelf", below, 0, 0, 2, SHELF, 2);
        is("balance -1", below.claim(0), 0);
        is("balance 0", below.claim(2), 0);
        is("balance 2", below.claim(1), 1);
    }

    private void claimByNumber() {
        holds(CLAIMS, CLAIM);
        OvenDays x = threeOnShelf();
        x.claim(1);
        holdersAre("the lowest number, though its own is on the shelf", x, 1, SHELF, SHELF);
        OvenDays y = threeOnShelf();
        y.claim(1);
        y.claim(0);
        holdersAre("the lowest ones that are left", y, 1, 0, 0);
        balance("whoever owns them", y, 0, FLAT, 0);
        OvenDays z = shelfAndMany(198);
        z.claim(0);
        is("the first kept one", z.loaf(0, 5), 0);
    }

    private void claimByGrooves() {
        holds(CLAIMS, CLAIM);
        claimWithMark(3, 1, "exactly the grooves of the print");
        claimWithMark(19, 1, "a groove more");
        claimWithMark(65535, 1, "all grooves");
        claimWithMark(2, 0, "lacks groove 0");
        claimWithMark(1, 0, "lacks groove 1");
        claimWithMark(65533, 0, "lacks groove 1, has all others");
        claimWithMark(8, 0, "lacks both");
        OvenDays x = sorted(0, 4, 8);
        x.remark(0, 1);
        is("a print without grooves", x.claim(0), 1);
        // Loaf 0 has the print 3, loaf 1 the print 1: the lower number does not fit.
        OvenDays y = Setup.with(7, 11);
        y.bring(0, FLAT, 2);
        y.bring(1, FLAT, 1);
        y.setS(Setup.seedFor(4, 1, 16, 2, 4, 2, 16, 2, 16, 1, 4, 0));
        y.bake(40);
        holdersAre("at first", y, SHELF, SHELF, 1);
        y.remark(0, 33);
        is("one that fits, of two", y.claim(0), 1);
        holdersAre("the lower one is passed over", y, SHELF, 0, 1);
        balance("one is still missing", y, 0, FLAT, 1);
    }

    private static void claimWithMark(int mark, int due, String what) {
        OvenDays x = sorted(0, 7, 11);
        x.remark(0, mark);
        is(what, x.claim(0), due);
        is(what + ": holder", x.loaf(0, 5), due == 1 ? 0 : SHELF);
    }

    /** Loaf 0 is flat bread with the print 3, loaf 1 bread with the print 3, loaf 2 rusks with the print 1. */
    private static OvenDays threeKinds() {
        OvenDays x = Setup.with(7, 11);
        x.bring(0, FLAT, 1);
        x.bring(0, BREAD, 1);
        x.bring(0, RUSKS, 1);
        x.bring(1, RUSKS, 1);
        x.setS(Setup.seedFor(4, 1, 16, 2, 4, 1, 16, 2, 4, 2, 16, 2, 16, 1, 4, 0));
        x.bake(40);
        return x;
    }

    private void claimByKind() {
        holds(CLAIMS, CLAIM);
        OvenDays x = threeKinds();
        holdersAre("at first", x, SHELF, SHELF, SHELF, 1);
        is("one of each kind", x.claim(0), 3);
        holdersAre("each kind", x, 0, 0, 0, 1);
        OvenDays y = threeKinds();
        y.remark(0, 1);
        is("none of the first two kinds, then the next one", y.claim(0), 1);
        holdersAre("the next kind", y, SHELF, SHELF, 0, 1);
        OvenDays z = threeKinds();
        balance("nothing is missing", z, 1, FLAT, 0);
        is("a kind of which nothing is missing", z.claim(1), 0);
    }

    /** Household 0 holds loaves 0, 2 and 3, of which loaf 0 is its own; its loaf 1 is with household 2. */
    private static OvenDays twoOfAnother() {
        OvenDays x = Setup.with(3, 11, 1);
        x.bring(0, FLAT, 2);
        x.bring(1, FLAT, 2);
        x.bring(2, FLAT, 1);
        x.setS(Setup.seedFor(4, 0, 4, 1, 16, 1, 4, 1, 16, 3, 4, 1, 16, 3, 4, 0));
        x.bake(40);
        return x;
    }

    private void returnByBalance() {
        holds(CLAIMS, RETURN);
        OvenDays x = twoOfAnother();
        holdersAre("at first", x, 0, 2, 0, 0, 2);
        balance("two of another one, one away", x, 0, FLAT, -1);
        is("balance -1", x.returnLoaves(0), 1);
        balance("then 0", x, 0, FLAT, 0);
        is("balance 0, one of another one", x.returnLoaves(0), 0);
        is("balance 2", x.returnLoaves(1), 0);
        is("balance -1 of 2", x.returnLoaves(2), 1);
        holdersAre("at last", x, 0, SHELF, 0, SHELF, 2);
        OvenDays y = Setup.with(3, 7);
        y.bring(0, FLAT, 1);
        y.bring(1, FLAT, 2);
        y.setS(Setup.seedFor(4, 0, 4, 1, 16, 2, 4, 1, 16, 2));
        y.bake(40);
        balance("two of another one", y, 0, FLAT, -2);
        is("balance -2", y.returnLoaves(0), 2);
        holdersAre("both", y, 0, SHELF, SHELF);
        is("balance 0, none of another one", y.returnLoaves(0), 0);
    }

    private void returnByNumber() {
        holds(CLAIMS, RETURN);
        OvenDays x = twoOfAnother();
        x.returnLoaves(0);
        holdersAre("the greatest number", x, 0, 2, 0, SHELF, 2);
        OvenDays y = sorted(0, 7, 3);
        holdersAre("at first", y, 1, 1);
        is("one of two", y.returnLoaves(1), 1);
        holdersAre("its own stays, though its number is greater", y, SHELF, 1);
        OvenDays kept = sorted(0, 7, 3);
        Setup.day(kept, 40, FLAT, 198);
        is("the first kept one", kept.returnLoaves(1), 1);
        OvenDays dropped = sorted(0, 7, 3);
        Setup.day(dropped, 40, FLAT, 199);
        is("one that is kept no more", dropped.returnLoaves(1), 0);
    }

    private void returnByKind() {
        holds(CLAIMS, RETURN);
        // Of household 1 a loaf of each kind has gone to household 0, which owns one of each kind.
        OvenDays x = Setup.with(3, 7);
        for (int kind = 0; kind < 3; kind++) {
            x.bring(0, kind, 1);
            x.bring(1, kind, 1);
        }
        x.setS(Setup.seedFor(4, 0, 4, 1, 16, 2, 4, 0, 4, 1, 16, 2, 4, 0, 4, 1, 16, 2));
        x.bake(40);
        holdersAre("at first", x, 0, 0, 0, 0, 0, 0);
        is("one of each kind", x.returnLoaves(0), 3);
        holdersAre("of each kind", x, 0, SHELF, 0, SHELF, 0, SHELF);
        OvenDays y = Setup.with(3, 7);
        y.bring(0, BREAD, 1);
        y.bring(1, BREAD, 1);
        y.setS(Setup.seedFor(4, 0, 4, 1, 16, 2));
        y.bake(40);
        is("only of a later kind", y.returnLoaves(0), 1);
    }

    private void shelfGivenAway() {
        holds(CLAIMS, "When the shelf is given away, the holder of all loaves on it becomes NONE.");
        OvenDays none = sorted(NONE, 7, 11);
        is("none", none.giveAway(), 0);
        holdersAre("none", none, 0, 1);
        OvenDays one = sorted(0, 7, 11);
        is("one", one.giveAway(), 1);
        holdersAre("one", one, NONE, 1);
        is("none again", one.giveAway(), 0);
        OvenDays all = threeOnShelf();
        is("all", all.giveAway(), 3);
        holdersAre("all", all, NONE, NONE, NONE);
        OvenDays last = threeOnShelf();
        last.claim(0);
        is("the last one", last.giveAway(), 1);
        holdersAre("the last one", last, 0, 0, NONE);
        is("the first kept one", shelfAndMany(198).giveAway(), 1);
        is("one that is kept no more", shelfAndMany(199).giveAway(), 0);
    }

    // ---- promise 9

    private void claim() {
        holds("Promise 9", "Lets a household claim. Undoable.");
        OvenDays x = Setup.rich();
        is("balance", x.balance(0, FLAT), 3);
        is("claim", x.claim(0), 1);
        is("holder", x.loaf(5, 5), 0);
        undoable("claim", Setup::rich, y -> y.claim(0));
        undoable("claim of nothing", Setup::rich, y -> y.claim(1));
        holds("Promise 9", HOUSEHOLD_SENTENCE);
        range(INDEX, 0, 7, () -> Setup.many(8), OvenDays::claim, 0, 0, 0, 0);
        range(INDEX, 0, 1, LoafBoundaries::threeOnShelf, OvenDays::claim, 2, 1, 2, 1);
        holds("Promise 9", "Returns the number of loaves that went to it.");
        is("none", sorted(NONE, 7, 11).claim(0), 0);
        is("one", sorted(0, 7, 11).claim(0), 1);
        is("three of three kinds", threeKinds().claim(0), 3);
        holds("Promise 9", INDEX_SENTENCE);
        outside(INDEX, 0, 2, Setup::rich, OvenDays::claim);
        refused("of none", INDEX, OvenDays::new, y -> y.claim(0));
    }

    // ---- promise 10

    private void returnLoaves() {
        holds("Promise 10", "Lets a household return. Undoable.");
        OvenDays x = Setup.rich();
        is("balance", x.balance(2, FLAT), -1);
        is("returnLoaves", x.returnLoaves(2), 1);
        is("holder", x.loaf(4, 5), SHELF);
        undoable("returnLoaves", Setup::rich, y -> y.returnLoaves(2));
        undoable("returnLoaves of nothing", Setup::rich, y -> y.returnLoaves(0));
        holds("Promise 10", HOUSEHOLD_SENTENCE);
        range(INDEX, 0, 7, () -> Setup.many(8), OvenDays::returnLoaves, 0, 0, 0, 0);
        range(INDEX, 0, 2, LoafBoundaries::twoOfAnother, OvenDays::returnLoaves, 1, 0, 0, 1);
        holds("Promise 10", "Returns the number of loaves that went to the shelf.");
        is("none", sorted(NONE, 7, 3).returnLoaves(1), 0);
        is("one", sorted(0, 7, 3).returnLoaves(1), 1);
        holds("Promise 10", INDEX_SENTENCE);
        outside(INDEX, 0, 2, Setup::rich, OvenDays::returnLoaves);
        refused("of none", INDEX, OvenDays::new, y -> y.returnLoaves(0));
    }

    // ---- promise 11

    private void giveAway() {
        holds("Promise 11", "Gives the shelf away. Undoable.");
        OvenDays x = Setup.rich();
        is("on the shelf", x.whole(10), 1);
        x.giveAway();
        is("on it no more", x.whole(10), 0);
        is("holder", x.loaf(5, 5), NONE);
        is("another one keeps its loaf", x.loaf(6, 5), 1);
        undoable("giveAway", Setup::rich, OvenDays::giveAway);
        undoable("giveAway of nothing", OvenDays::new, OvenDays::giveAway);
        holds("Promise 11", "Returns the number of loaves that were on it.");
        is("none", new OvenDays().giveAway(), 0);
        is("one", sorted(0, 7, 11).giveAway(), 1);
        is("two", twoOnShelf().giveAway(), 2);
        is("three", threeOnShelf().giveAway(), 3);
    }

    private static OvenDays twoOnShelf() {
        OvenDays x = threeOnShelf();
        x.claim(1);
        return x;
    }
}

/** Promises 20 to 23. */
final class WhatIfBoundaries extends Boundaries {
    private static final int FLAT = 0;
    private static final int BREAD = 1;
    private static final int RUSKS = 2;

    @Override
    void all() {
        changesNothing();
        doughWith();
        doughByLoads();
        bestWood();
        bestWoodAtItsEnds();
        likeMarks();
        freeMark();
        freeMarkOfAll();
    }

    /** 3 flat breads, 5 breads and 4 rusks. */
    private static OvenDays oneOfEach() {
        OvenDays x = Setup.with(1, 2);
        x.bring(0, FLAT, 3);
        x.bring(1, BREAD, 5);
        x.bring(0, RUSKS, 4);
        return x;
    }

    private void changesNothing() {
        holds("Promise 20", "---- what if, which changes nothing");
        onlyAnswers("doughWith(7)", WhatIfBoundaries::oneOfEach, x -> x.doughWith(7), 8);
        onlyAnswers("doughWith(40)", Setup::rich, x -> x.doughWith(40), 0);
        onlyAnswers("bestWood", WhatIfBoundaries::oneOfEach, OvenDays::bestWood, 24);
        onlyAnswers("likeMarks", Setup::rich, OvenDays::likeMarks, 2);
        onlyAnswers("freeMark(1)", Setup::rich, x -> x.freeMark(1), 16);
        savesNothing("doughWith", WhatIfBoundaries::oneOfEach, x -> x.doughWith(24));
        savesNothing("bestWood", WhatIfBoundaries::oneOfEach, OvenDays::bestWood);
        savesNothing("likeMarks", WhatIfBoundaries::oneOfEach, OvenDays::likeMarks);
        savesNothing("freeMark", WhatIfBoundaries::oneOfEach, x -> x.freeMark(16));
        OvenDays asked = oneOfEach();
        OvenDays other = oneOfEach();
        for (int wood = 1; wood <= 40; wood++) {
            asked.doughWith(wood);
        }
        asked.bestWood();
        asked.excuse(0);
        other.excuse(0);
        asked.doughWith(1);
        asked.bestWood();
        is("a day after questions", asked.bake(24), other.bake(24));
        is("all after questions", asked.digest(), other.digest());
        is("loads stay", asked.load(2, 3) + asked.doughWith(40), 200);
    }

    // ---- promise 20

    private void doughWith() {
        holds("Promise 20", "Tells how many waiting loaves would be taken home as dough after bake().");
        int[] woods = {6, 7, 8, 15, 16, 17, 23, 24, 25};
        int[] dough = {12, 8, 8, 8, 3, 3, 3, 0, 0};
        for (int index = 0; index < woods.length; index++) {
            is("with " + woods[index], oneOfEach().doughWith(woods[index]), dough[index]);
            OvenDays x = oneOfEach();
            x.bake(woods[index]);
            is("after bake(" + woods[index] + ")", x.whole(6), dough[index]);
        }
        OvenDays before = Setup.after(1, FLAT, 5);
        Setup.bring(before, FLAT, 3);
        is("dough of before does not count", before.doughWith(23), 3);
        is("nor with enough wood", before.doughWith(24), 0);
        holds("Promise 20", "- `wood`: 1 to 40");
        range(ARGUMENT, 1, 40, WhatIfBoundaries::oneOfEach, OvenDays::doughWith, 12, 12, 0, 0);
        holds("Promise 20", "Returns the number (0 if no batch waits).");
        for (int wood : new int[] {1, 40}) {
            onlyAnswers("no households", OvenDays::new, x -> x.doughWith(wood), 0);
            onlyAnswers("no batch", () -> Setup.with(1, 2), x -> x.doughWith(wood), 0);
        }
        onlyAnswers("one batch", () -> {
            OvenDays x = Setup.with(1);
            x.bring(0, FLAT, 1);
            return x;
        }, x -> x.doughWith(23), 1);
        OvenDays all = Setup.with(1);
        Setup.bring(all, FLAT, 240);
        is("all of twenty batches", all.doughWith(23), 240);
        // From 260 on, one load more of 24 for each 16.
        is("all but a load", all.doughWith(24), 216);
        is("all but nine loads", all.doughWith(40), 24);
        all.takeBack(19);
        is("one batch less", all.doughWith(23), 228);
        holds("Promise 20", "Throws `IllegalArgumentException` if wood is out of range");
        outside(ARGUMENT, 1, 40, Setup::rich, OvenDays::doughWith);
        outside(ARGUMENT, 1, 40, OvenDays::new, OvenDays::doughWith);
    }

    private void doughByLoads() {
        holds("Promise 20", "Tells how many waiting loaves would be taken home as dough after bake().");
        OvenDays x = Setup.with(1);
        Setup.bring(x, BREAD, 25);
        is("a load at 210 leaves 170, too cold for the next", x.doughWith(19), 1);
        is("a load at 220 leaves 180", x.doughWith(20), 0);
        OvenDays order = Setup.with(1, 2);
        order.bring(0, BREAD, 12);
        order.bring(1, BREAD, 7);
        order.bring(0, BREAD, 11);
        // 12 and 11 of household 0 go in, or 7 of household 1 and 12.
        is("household 0 brings the wood", order.doughWith(19), 7);
        order.excuse(0);
        is("household 1 brings the wood", order.doughWith(19), 11);
    }

    // ---- promise 21

    private void bestWood() {
        holds("Promise 21", "Returns the least wood with which the fewest waiting loaves would be taken home as dough.");
        OvenDays x = Setup.with(1, 2);
        x.bring(0, RUSKS, 4);
        is("rusks want 90", x.bestWood(), 7);
        x.bring(0, BREAD, 1);
        is("bread wants 180", x.bestWood(), 16);
        x.bring(0, FLAT, 1);
        is("flat bread wants 260", x.bestWood(), 24);
        OvenDays flat = Setup.after(25, FLAT, 8);
        flat.bring(0, FLAT, 1);
        // From 129: 259 and 269.
        is("one below with 13", flat.doughWith(13), 1);
        is("none with 14", flat.doughWith(14), 0);
        is("14 from 129", flat.bestWood(), 14);
        // Flat bread wants 388 for nine loads; a tenth is dough with any wood.
        OvenDays full = Setup.with(1);
        Setup.bring(full, FLAT, 240);
        is("with 36", full.doughWith(36), 48);
        is("with 37", full.doughWith(37), 24);
        is("with 40", full.doughWith(40), 24);
        is("the fewest is not none", full.bestWood(), 37);
    }

    private void bestWoodAtItsEnds() {
        holds("Promise 21", "Returns the wood, 1 to 40; NONE if no batch waits.");
        onlyAnswers("no households", OvenDays::new, OvenDays::bestWood, NONE);
        onlyAnswers("no batch", () -> Setup.with(1), OvenDays::bestWood, NONE);
        OvenDays taken = oneOfEach();
        taken.takeBack(0);
        taken.takeBack(0);
        is("one batch", taken.bestWood(), 7);
        taken.takeBack(0);
        is("no batch any more", taken.bestWood(), NONE);
        // 165 / 2 is 82, and 92 is enough for rusks; 80 and 10 are just enough; 79 and 10 are not.
        OvenDays warm = Setup.after(17, BREAD, 1);
        is("82", warm.whole(2), 82);
        warm.bring(0, RUSKS, 1);
        is("the least, with 1 to spare", warm.bestWood(), 1);
        OvenDays just = Setup.after(18, RUSKS, 1);
        is("80", just.whole(2), 80);
        just.bring(0, RUSKS, 1);
        is("the least", just.bestWood(), 1);
        OvenDays cool = Setup.after(25, FLAT, 8);
        Setup.day(cool, 3, FLAT, 1);
        is("79", cool.whole(2), 79);
        cool.bring(0, RUSKS, 1);
        is("one more than the least", cool.bestWood(), 2);
        OvenDays cold = Setup.with(1);
        // 7 loads of 24 leave 288 of 400, two of 22 leave 260, at which the last 22 just go in.
        Setup.bring(cold, FLAT, 168);
        for (int batch = 0; batch < 6; batch++) {
            cold.bring(0, FLAT, 11);
        }
        is("with 37", cold.doughWith(37), 22);
        is("with 38", cold.doughWith(38), 0);
        is("the most that is ever needed", cold.bestWood(), 38);
    }

    // ---- promise 22

    private void likeMarks() {
        holds("Promise 22", "Counts the pairs of households of which one has all grooves of the other one.");
        like(0, 3, 5);
        like(0, 3, 4);
        like(1, 3, 7);
        like(1, 7, 3);
        like(1, 1, 65535);
        like(1, 32768, 65535);
        like(0, 32768, 32767);
        like(1, 32768, 32769);
        like(0, 6, 65533);
        like(1, 6, 65534);
        like(1, 3, 7, 8);
        like(2, 3, 7, 11);
        like(3, 3, 7, 15);
        savesNothing("likeMarks", Setup::rich, OvenDays::likeMarks);
        OvenDays x = Setup.with(3, 7);
        x.remark(1, 4);
        is("after a remark", x.likeMarks(), 0);
        x.undo();
        is("after an undo", x.likeMarks(), 1);
        holds("Promise 22", "Returns the number of pairs.");
        onlyAnswers("no households", OvenDays::new, OvenDays::likeMarks, 0);
        onlyAnswers("one household", () -> Setup.with(65535), OvenDays::likeMarks, 0);
        onlyAnswers("eight apart", () -> Setup.many(8), OvenDays::likeMarks, 0);
        onlyAnswers("eight within each other", () -> Setup.with(1, 3, 7, 15, 31, 63, 127, 255), OvenDays::likeMarks, 28);
        onlyAnswers("seven within one", () -> Setup.with(127, 1, 2, 4, 8, 16, 32, 64), OvenDays::likeMarks, 7);
    }

    private static void like(int due, int... marks) {
        is("of marks from " + marks[0] + " to " + marks[marks.length - 1], Setup.with(marks).likeMarks(), due);
    }

    // ---- promise 23

    private static void free(int grooves, int due, int... marks) {
        is(grooves + " grooves, " + marks.length + " marks", Setup.with(marks).freeMark(grooves), due);
    }

    private void freeMark() {
        holds("Promise 23", "Returns the least mark with some grooves that is like no mark: neither has it all grooves of the "
                + "mark of a household, nor has that all of its.");
        free(1, 2, 1);
        free(1, 4, 1, 2);
        free(1, 1, 2);
        free(2, 6, 1);
        free(2, 3, 4);
        free(2, 5, 3);
        free(2, 6, 3, 5);
        free(2, 12, 1, 2);
        free(3, 7, 8);
        free(3, 11, 7);
        free(3, 14, 1);
        // All but groove 15: only groove 15 and marks with it are free, but for the one with all.
        free(1, 32_768, 32_767);
        free(2, 32_769, 32_767);
        free(15, 49_151, 32_767);
        free(15, 65_534, 1);
        free(15, 32_767, 32_768);
        free(15, 65_533, 2);
        free(2, 16_385, 16_383);
        // Marks of household 0 without groove 0: a mark with it is free.
        free(1, 1, 65_534);
        free(2, 3, 65_534);
        free(14, 16_383, 65_534);
        free(15, 32_767, 65_534);
        savesNothing("freeMark", Setup::rich, x -> x.freeMark(8));
        holds("Promise 23", "- `grooves`: 1 to 16");
        range(ARGUMENT, 1, 16, OvenDays::new, OvenDays::freeMark, 1, 3, 32_767, 65_535);
        range(ARGUMENT, 1, 16, () -> Setup.with(1), OvenDays::freeMark, 2, 6, 65_534, NONE);
    }

    private void freeMarkOfAll() {
        holds("Promise 23", "Returns the mark; NONE if there is none.");
        onlyAnswers("16 grooves, no marks", OvenDays::new, x -> x.freeMark(16), 65_535);
        onlyAnswers("16 grooves, one mark", () -> Setup.with(32_768), x -> x.freeMark(16), NONE);
        onlyAnswers("15 grooves, one mark", () -> Setup.with(32_768), x -> x.freeMark(15), 32_767);
        onlyAnswers("15 grooves, two marks", () -> Setup.with(32_768, 1), x -> x.freeMark(15), NONE);
        onlyAnswers("15 grooves, two marks, one of them free", () -> Setup.with(32_768, 49_152), x -> x.freeMark(15), 32_767);
        onlyAnswers("14 grooves, two marks", () -> Setup.with(32_768, 1), x -> x.freeMark(14), 32_766);
        for (int grooves = 1; grooves <= 16; grooves++) {
            int one = grooves;
            is("a mark with all grooves", Setup.with(65_535).freeMark(one), NONE);
        }
        // The last of all marks with 8 grooves: every other one has a groove below 8.
        free(8, 65_280, 1, 2, 4, 8, 16, 32, 64, 128);
        free(9, NONE, 1, 2, 4, 8, 16, 32, 64, 128);
        free(7, 32_512, 1, 2, 4, 8, 16, 32, 64, 128);
        free(1, 256, 1, 2, 4, 8, 16, 32, 64, 128);
        free(1, 32_768, 1, 2, 4, 8, 16, 32, 64, 32_640);
        free(1, NONE, 1, 2, 4, 8, 16, 32, 64, 65_408);
        holds("Promise 23", "Throws `IllegalArgumentException` if grooves is out of range");
        outside(ARGUMENT, 1, 16, Setup::rich, OvenDays::freeMark);
        outside(ARGUMENT, 1, 16, () -> Setup.with(65_535), OvenDays::freeMark);
    }
}

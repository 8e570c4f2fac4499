/** "TEXTS OF COMMANDS", and promises 24 to 27. */
final class TextBoundaries extends Boundaries {
    private static final String PLACE = "TEXTS OF COMMANDS";
    private static final String COMMANDS = "each of which is a word of letters a to z, followed by its numbers, each of one to "
            + "five digits (zeros in front are allowed; a sixth digit cannot stand) and with at least one space (byte 32) in "
            + "front, and a semicolon.";
    private static final String WORDS = "The words are: join m (join(m)), bring h k n (bring(h, k, n)), bake w (bake(w)), claim h "
            + "(claim(h)), return h (returnLoaves(h)), excuse h (excuse(h)), give (giveAway()).";
    private static final String UNKNOWN = "A word that is not one of these is at fault with its first byte, found when the word "
            + "is complete: when a byte that is no letter, or the end of the text, follows it.";
    private static final String RUN = "To run a command text means: if it has a fault, nothing is done; otherwise the commands "
            + "are carried out in their order, until one of them would throw an exception, which is not thrown, but kept as the "
            + "stop; those before it stay done, and they alone count.";
    private static final String REASONS = "Returns 0 if it met no exception, or there was no run, 1 for an "
            + "IndexOutOfBoundsException, 2 for an IllegalArgumentException, 3 for an IllegalStateException.";

    @Override
    void all() {
        atMost150();
        noCommands();
        letters();
        digits();
        spacesInFrontOfNumbers();
        semicolons();
        spacesElsewhere();
        words();
        wordsApart();
        numbersOfWords();
        faults();
        unknownWords();
        numbersOutOfRange();
        run();
        oneState();
        type();
        clearCommands();
        runCommands();
        stopOfARun();
        stop();
    }

    /** Two households, three saved states, and a stop of 1 from a run before; the text has not yet run. */
    private static OvenDays ready(String text) {
        OvenDays x = Setup.with(1, 2);
        Setup.run(x, "excuse 2;");
        x.clearCommands();
        return Setup.typed(x, text);
    }

    private static void fault(String text, int fault) {
        onlyAnswers("'" + text + "'", () -> ready(text), OvenDays::runCommands, -10 - fault);
    }

    private static void runs(String text, int done, int stop) {
        OvenDays x = ready(text);
        is("'" + text + "'", x.runCommands(), done);
        is("stop of '" + text + "'", x.stop(), stop);
        is("states after '" + text + "'", x.undo(), 3);
        is("households before '" + text + "'", x.whole(0), 2);
        is("batches before '" + text + "'", x.whole(3), 0);
        is("days before '" + text + "'", x.whole(1), 0);
        is("excused before '" + text + "'", x.household(0, 3) + x.household(1, 3), 0);
    }

    private static String times(String text, int count) {
        return text.repeat(count);
    }

    // ---- the description

    private void atMost150() {
        holds(PLACE, "The command text has at most 150 bytes.");
        is("one below full", ready(times(" ", 148)).type(' '), 149);
        is("full", ready(times(" ", 149)).type(' '), 150);
        refused("more than full", STATE, () -> ready(times("give;", 30)), x -> x.type(' '));
        OvenDays x = ready(times("give;", 30));
        is("all of a full text is run", x.runCommands(), 30);
        is("none of an empty one", ready("").runCommands(), 0);
        is("one", ready("give;").runCommands(), 1);
        is("one below full is run", ready(times("give;", 29) + "    ").runCommands(), 29);
    }

    private void noCommands() {
        holds(PLACE, "It is a sequence of commands (perhaps none: a text that is empty, or has spaces alone, has no fault),");
        for (int spaces : new int[] {0, 1, 2, 149, 150}) {
            runs(times(" ", spaces), 0, 0);
        }
        for (char sign : new char[] {0, 9, 10, 31, 33, 59, 127}) {
            fault(String.valueOf(sign), 0);
            fault(" " + sign, 1);
        }
        fault(times(" ", 149) + ";", 149);
    }

    private void letters() {
        holds(PLACE, COMMANDS);
        runs("give;", 1, 0);
        // Byte 96 stands in front of a, byte 123 behind z; 65 to 90 are capitals.
        fault("`give;", 0);
        fault("{give;", 0);
        fault("Give;", 0);
        fault("GIVE;", 0);
        fault("give`;", 4);
        fault("give{;", 4);
        fault("giveE;", 4);
        fault("giv`;", 0);
        fault("giv{;", 0);
        fault("givE;", 0);
        fault("givea;", 0);
        fault("givez;", 0);
        fault("agive;", 0);
        fault("zgive;", 0);
        fault("give_;", 4);
        fault("give\t;", 4);
    }

    private void digits() {
        holds(PLACE, COMMANDS);
        fault("join ;", 5);
        runs("join 9;", 1, 0);
        runs("join 99;", 1, 0);
        runs("join 9999;", 1, 0);
        runs("join 65535;", 1, 0);
        runs("join 00009;", 1, 0);
        fault("join 000009;", 10);
        fault("join 655350;", 10);
        fault("join 0000000;", 10);
        // Bytes 47 and 58 stand beside the digits.
        fault("join /;", 5);
        fault("join :;", 5);
        fault("join 9/;", 6);
        fault("join 9:;", 6);
        fault("join -9;", 5);
        fault("join +9;", 5);
        fault("join a;", 5);
        fault("join 9a;", 6);
        runs("bring 00001 00002 00012;", 1, 0);
        fault("bring 000001 2 3;", 11);
        fault("bring 1 000002 3;", 13);
        fault("bring 1 2 000003;", 15);
        OvenDays x = ready("join 00010;bring 00001 00002 00012;");
        is("zeros in front", x.runCommands(), 2);
        is("mark 10", x.household(2, 0), 10);
        is("household 1", x.batch(0, 0), 1);
        is("kind 2", x.batch(0, 1), 2);
        is("12 loaves", x.batch(0, 2), 12);
        OvenDays y = ready("join 65535;");
        y.runCommands();
        is("five digits", y.household(2, 0), 65_535);
        OvenDays z = ready("join 6543;");
        z.runCommands();
        is("four digits", z.household(2, 0), 6_543);
    }

    private void spacesInFrontOfNumbers() {
        holds(PLACE, COMMANDS);
        fault("join9;", 4);
        runs("join 9;", 1, 0);
        runs("join  9;", 1, 0);
        runs("join" + times(" ", 144) + "9;", 1, 0);
        fault("join" + times(" ", 145) + "9", 150);
        // Bytes 31 and 33 stand beside the space.
        fault("join" + (char) 31 + "9;", 4);
        fault("join!9;", 4);
        fault("join\t9;", 4);
        fault("bring0 1 2;", 5);
        fault("bring 01 2;", 10);
        fault("bring 0 12;", 10);
        fault("bring 0,1 2;", 7);
        runs("bring 0 1 2;", 1, 0);
        runs("bring  0  1  2;", 1, 0);
    }

    private void semicolons() {
        holds(PLACE, COMMANDS);
        runs("join 9;", 1, 0);
        // Bytes 58 and 60 stand beside the semicolon.
        fault("join 9:", 6);
        fault("join 9<", 6);
        fault("join 9,", 6);
        fault("join 9", 6);
        fault("join 9;;", 7);
        fault("give", 4);
        fault("give:", 4);
        fault("give<", 4);
        runs("give;", 1, 0);
        fault("give;;", 5);
        fault("give; ;", 6);
        fault(";give;", 0);
        fault("give give;", 5);
        runs("give;give;", 2, 0);
    }

    private void spacesElsewhere() {
        holds(PLACE, "Spaces may also stand in front of a command, in front of a semicolon, and at the end.");
        runs(" give;", 1, 0);
        runs("  give;", 1, 0);
        runs("give ;", 1, 0);
        runs("give  ;", 1, 0);
        runs("give; ", 1, 0);
        runs("give;  ", 1, 0);
        runs("give; give;", 2, 0);
        runs("  give  ;  join  9  ;  ", 2, 0);
        runs("join 9 ;", 1, 0);
        runs(times(" ", 145) + "give;", 1, 0);
        runs("give" + times(" ", 145) + ";", 1, 0);
        runs("give;" + times(" ", 145), 1, 0);
        fault("gi ve;", 0);
        fault("join 1 0;", 7);
        fault("join 9 ", 7);
        fault(" give", 5);
    }

    /** A command does in a text what the method does alone. */
    private static void does(String command, On call) {
        OvenDays x = Setup.rich();
        is(command, Setup.run(x, command), 1);
        OvenDays y = Setup.rich();
        Setup.run(y, "");
        call.answer(y);
        is("village after " + command, Setup.digestOf(x, 0, 0), Setup.digestOf(y, 0, 0));
    }

    private void words() {
        holds(PLACE, WORDS);
        does("join 99;", x -> x.join(99));
        does("bring 1 2 7;", x -> x.bring(1, 2, 7));
        does("bake 30;", x -> x.bake(30));
        does("bake 1;", x -> x.bake(1));
        does("claim 0;", x -> x.claim(0));
        does("claim 2;", x -> x.claim(2));
        does("return 2;", x -> x.returnLoaves(2));
        does("return 0;", x -> x.returnLoaves(0));
        does("excuse 0;", x -> x.excuse(0));
        does("excuse 2;", x -> x.excuse(2));
        does("give;", OvenDays::giveAway);
        for (String word : new String[] {"join", "bring", "bake", "claim", "return", "excuse", "give"}) {
            fault(word.substring(0, word.length() - 1) + " 1;", 0);
            fault(word.substring(1) + " 1;", 0);
            fault(word + word.charAt(word.length() - 1) + " 1;", 0);
            fault(word.substring(0, word.length() - 1) + "x 1;", 0);
            fault("x" + word.substring(1) + " 1;", 0);
            fault(word + word + " 1;", 0);
        }
        for (String other : new String[] {"remark", "takeback", "sets", "undo", "type", "stop", "returnloaves", "giveaway", "a"}) {
            fault(other + " 1;", 0);
            fault(other + ";", 0);
        }
    }

    /** No command does what another one does too: household 1 lacks a loaf that is on the shelf. */
    private void wordsApart() {
        holds(PLACE, WORDS);
        OvenDays x = Setup.with(11, 7);
        x.bring(0, 0, 1);
        x.bring(1, 0, 1);
        x.setS(Setup.seedFor(4, 0, 4, 1, 16, 2));
        x.bake(40);
        is("on the shelf", x.loaf(1, 5), SHELF);
        is("other commands", Setup.run(x, "join 1;bring 1 0 1;bake 1;excuse 1;return 1;claim 0;"), 6);
        is("on the shelf still", x.loaf(1, 5), SHELF);
        is("days", x.whole(1), 2);
        is("households", x.whole(0), 3);
        is("excused", x.household(0, 3) + x.household(1, 3) + x.household(2, 3), 1);
        is("the claim", Setup.run(x, "claim 1;"), 1);
        is("holder", x.loaf(1, 5), 1);
    }

    private void numbersOfWords() {
        holds(PLACE, WORDS);
        for (String word : new String[] {"join", "bake", "claim", "return", "excuse"}) {
            int length = word.length();
            fault(word + ";", length);
            fault(word + " ;", length + 1);
            fault(word + " 1 1;", length + 3);
            isTrue(word, ready(word + " 1;").runCommands() >= 0);
        }
        fault("bring;", 5);
        fault("bring 1;", 7);
        fault("bring 1 1;", 9);
        fault("bring 1 1 ;", 10);
        runs("bring 1 1 1;", 1, 0);
        fault("bring 1 1 1 1;", 12);
        runs("give;", 1, 0);
        fault("give 1;", 5);
        fault("give1;", 4);
    }

    private void faults() {
        holds(PLACE, "The fault of a command text is the index of the first byte that cannot stand at its place, or the length of "
                + "the text if it ends too soon.");
        fault("1", 0);
        fault(" 1", 1);
        fault("join 9;1", 7);
        fault("join 9;join 9a;join x;", 13);
        fault("join", 4);
        fault("join ", 5);
        fault("join 9", 6);
        fault("join 9 ", 7);
        fault("bring 1 1", 9);
        fault("bring 1 1 ", 10);
        String full = times("give;", 29);
        fault(full + "    1", 149);
        fault(full + "   1 ", 148);
        fault(full + "give", 149);
        fault(full + " give", 150);
        fault(full + "join ", 150);
        fault(full + "give ", 150);
        runs(full + "give;", 30, 0);
        runs(full + "     ", 29, 0);
        fault("join 9;join 12345", 17);
        fault("join 9;join 123456", 17);
    }

    private void unknownWords() {
        holds(PLACE, UNKNOWN);
        fault("giv", 0);
        fault("g", 0);
        fault("give", 4);
        fault("gives", 0);
        fault("giv;", 0);
        fault("giv ", 0);
        fault("giv1", 0);
        fault("giv/", 0);
        fault("   giv", 3);
        fault("   giv ;", 3);
        fault("join 9;  joi 9;", 9);
        fault("join 9;joi", 7);
        fault("join 9;join", 11);
        String full = times("give;", 29);
        fault(full + "givee", 145);
        fault(full + " givf", 146);
        fault(full + "    g", 149);
        fault(times("g", 150), 0);
        fault(times("a", 149), 0);
    }

    private void numbersOutOfRange() {
        holds(PLACE, "(That a number is out of its range is no fault.)");
        runs("join 0;", 0, 2);
        runs("join 65535;", 1, 0);
        runs("join 65536;", 0, 2);
        runs("join 99999;", 0, 2);
        runs("bring 1 2 12;", 1, 0);
        runs("bring 2 2 12;", 0, 1);
        runs("bring 99999 99999 99999;", 0, 1);
        runs("bring 1 3 12;", 0, 2);
        runs("bring 1 2 13;", 0, 2);
        runs("bring 1 2 0;", 0, 2);
        runs("bring 0 0 1;bake 1;", 2, 0);
        runs("bring 0 0 1;bake 40;", 2, 0);
        runs("bring 0 0 1;bake 0;", 1, 2);
        runs("bring 0 0 1;bake 41;", 1, 2);
        runs("claim 1;", 1, 0);
        runs("claim 2;", 0, 1);
        runs("return 1;", 1, 0);
        runs("return 2;", 0, 1);
        runs("excuse 1;", 1, 0);
        runs("excuse 99999;", 0, 1);
    }

    private void run() {
        holds(PLACE, RUN);
        fault("join 5;join 6", 13);
        fault("join 5;join 6;x", 14);
        OvenDays none = ready("join 0;join 5;");
        is("the first one would throw", none.runCommands(), 0);
        is("nothing is done", none.whole(0), 2);
        is("stop", none.stop(), 2);
        OvenDays middle = ready("join 5;join 5;join 6;");
        is("the second one would throw", middle.runCommands(), 1);
        is("the first is done, the third is not", middle.whole(0), 3);
        is("stop", middle.stop(), 3);
        OvenDays last = ready("join 5;join 6;claim 4;");
        is("the last one would throw", last.runCommands(), 2);
        is("those before it are done", last.whole(0), 4);
        is("stop", last.stop(), 1);
        OvenDays all = ready("join 5;join 6;claim 3;");
        is("none would throw", all.runCommands(), 3);
        is("stop", all.stop(), 0);
        OvenDays order = ready("excuse 0;bring 0 0 1;bake 30;");
        is("in their order", order.runCommands(), 3);
        is("household 1 has brought the wood", order.household(1, 1), 30);
        is("the seventh joins, and the eighth does not", Setup.run(Setup.many(7), "join 3;join 5;give;"), 1);
        is("the twentieth batch, and no more", Setup.run(nineteen(), "bring 0 0 1;bring 0 0 1;give;"), 1);
        is("a day without batches", Setup.run(nineteen(), "bake 1;bake 1;give;"), 1);
    }

    private static OvenDays nineteen() {
        OvenDays x = Setup.with(1);
        Setup.bring(x, 0, 228);
        return x;
    }

    private void oneState() {
        holds(PLACE, "A run saves one state, the one from before it; its commands save none.");
        for (String text : new String[] {"", "give;", "give;give;", times("give;", 30), "join 0;", "give;join 0;"}) {
            OvenDays x = new OvenDays();
            Setup.run(x, text);
            is("states of '" + text + "'", x.undo(), 0);
            refusedHere("no more of '" + text + "'", STATE, x, OvenDays::undo);
        }
        OvenDays full = Setup.with(1, 2, 4, 8);
        is("run on a full stack", Setup.run(full, "join 16;join 32;join 64;"), 3);
        is("states below a run", full.undo(), 3);
        is("households before the run", full.whole(0), 4);
        is("one state more", full.undo(), 2);
        is("households before the fourth", full.whole(0), 3);
        undoable("a run", () -> ready("join 9;bring 2 0 12;excuse 0;bake 40;claim 3;"), OvenDays::runCommands);
    }

    // ---- promise 24

    private void type() {
        holds("Promise 24", "Appends a byte to the command text.");
        OvenDays x = ready("join ");
        x.type('9');
        x.type(';');
        is("the text", x.runCommands(), 1);
        is("mark", x.household(2, 0), 9);
        x.type('x');
        is("behind the text", x.runCommands(), -17);
        savesNothing("type", Setup::rich, y -> y.type(' '));
        holds("Promise 24", "- `value`: 0 to 127");
        range(ARGUMENT, 0, 127, () -> ready(""), OvenDays::type, 1, 1, 1, 1);
        range(ARGUMENT, 0, 127, () -> ready(times(" ", 149)), OvenDays::type, 150, 150, 150, 150);
        holds("Promise 24", "Returns the length of the text.");
        is("the first", ready("").type(' '), 1);
        is("the second", ready("g").type(' '), 2);
        is("the last but one", ready(times("x", 148)).type(' '), 149);
        is("the last", ready(times("x", 149)).type(' '), 150);
        holds("Promise 24", "Throws `IllegalArgumentException` if value is out of range");
        outside(ARGUMENT, 0, 127, Setup::rich, OvenDays::type);
        outside(ARGUMENT, 0, 127, () -> ready(times("give;", 30)), OvenDays::type);
        refused("a byte with a sign", ARGUMENT, Setup::rich, y -> y.type((byte) 200));
        refused("256 and a space", ARGUMENT, Setup::rich, y -> y.type(288));
        holds("Promise 24", "Throws `IllegalStateException` if the text has 150 bytes");
        is("149 bytes", ready(times("give;", 29) + "give").type(';'), 150);
        refused("150 bytes", STATE, () -> ready(times("give;", 30)), y -> y.type(';'));
        refused("150 bytes, and byte 0", STATE, () -> ready(times("give;", 30)), y -> y.type(0));
        OvenDays cleared = ready(times("x", 150));
        cleared.clearCommands();
        is("none of 150 bytes", cleared.type('x'), 1);
    }

    // ---- promise 25

    private void clearCommands() {
        holds("Promise 25", "Empties the command text.");
        OvenDays x = ready("join 9;");
        x.clearCommands();
        is("nothing to run", x.runCommands(), 0);
        is("no household more", x.whole(0), 2);
        is("the first byte again", x.type('g'), 1);
        is("nothing is left of the text", x.runCommands(), -10);
        savesNothing("clearCommands", Setup::rich, OvenDays::clearCommands);
        OvenDays undone = ready("join 9;");
        undone.setS(3);
        undone.clearCommands();
        undone.undo();
        is("an undo brings no text back", undone.clearCommands(), 0);
        is("the stop stays", undone.stop(), 1);
        holds("Promise 25", "Returns the length that it had.");
        is("none", ready("").clearCommands(), 0);
        is("one", ready("x").clearCommands(), 1);
        is("one below full", ready(times("x", 149)).clearCommands(), 149);
        OvenDays full = ready(times("x", 150));
        is("full", full.clearCommands(), 150);
        is("none any more", full.clearCommands(), 0);
    }

    // ---- promise 26

    private void runCommands() {
        holds("Promise 26", "Runs the command text, which stays as it is.");
        OvenDays x = ready("join 9;");
        is("a run", x.runCommands(), 1);
        is("once more", x.runCommands(), 0);
        is("stop of the second run", x.stop(), 3);
        x.undo();
        x.undo();
        is("after an undo", x.runCommands(), 1);
        is("the text", x.clearCommands(), 7);
        OvenDays fault = ready("join 9");
        is("a fault", fault.runCommands(), -16);
        is("the text with a fault", fault.type(';'), 7);
        is("without a fault", fault.runCommands(), 1);
        holds("Promise 26", "Undoable, if it has no fault.");
        OvenDays empty = new OvenDays();
        empty.runCommands();
        is("an empty text", empty.undo(), 0);
        savesNothing("a fault", () -> ready("join 9"), OvenDays::runCommands);
        savesNothing("a fault at last", () -> ready(times("give;", 29) + "give"), OvenDays::runCommands);
        undoable("a run", () -> ready("excuse 1;claim 2;"), OvenDays::runCommands);
        holds("Promise 26", "Returns the number of commands that were carried out; -10 minus the fault if it has one.");
        is("none", ready("").runCommands(), 0);
        is("none before the stop", ready("join 0;").runCommands(), 0);
        is("one", ready("give;").runCommands(), 1);
        is("as many as can be", ready(times("give;", 30)).runCommands(), 30);
        is("the least fault", ready(";").runCommands(), -10);
        is("the next fault", ready(" ;").runCommands(), -11);
        is("the greatest but one", ready(times("give;", 29) + "give").runCommands(), -159);
        is("the greatest fault", ready(times("give;", 29) + "give ").runCommands(), -160);
    }

    private void stopOfARun() {
        holds("Promise 26", "(The stop is that of this run; a run that meets none has none. With a fault the stop stays.)");
        OvenDays x = ready("join 0;");
        is("stop before", x.stop(), 1);
        x.runCommands();
        is("that of this run", x.stop(), 2);
        x.type('x');
        is("a fault", x.runCommands(), -17);
        is("stays", x.stop(), 2);
        is("a run of nothing", Setup.run(x, ""), 0);
        is("has none", x.stop(), 0);
        is("a fault", Setup.run(x, "x"), -10);
        is("stays none", x.stop(), 0);
        is("a run that meets one", Setup.run(x, "give;join 1;"), 1);
        is("has it", x.stop(), 3);
        is("a run that meets none", Setup.run(x, "give;"), 1);
        is("has none", x.stop(), 0);
    }

    // ---- promise 27

    private void stop() {
        holds("Promise 27", "Tells why the latest run stopped.");
        OvenDays x = ready("");
        is("of the latest run", x.stop(), 1);
        refusedHere("a refused call", ARGUMENT, x, y -> y.join(0));
        is("is no run", x.stop(), 1);
        x.runCommands();
        is("of the next run", x.stop(), 0);
        x.undo();
        is("an undo brings none back", x.stop(), 0);
        savesNothing("stop", Setup::rich, OvenDays::stop);
        holds("Promise 27", REASONS);
        onlyAnswers("no run", OvenDays::new, OvenDays::stop, 0);
        onlyAnswers("a run before", () -> ready(""), OvenDays::stop, 1);
        runs("give;", 1, 0);
        runs("claim 1;claim 2;", 1, 1);
        runs("return 2;", 0, 1);
        runs("excuse 2;", 0, 1);
        runs("bring 2 0 1;", 0, 1);
        runs("bring 2 3 0;", 0, 1);
        runs("bring 0 3 1;", 0, 2);
        runs("join 0;", 0, 2);
        runs("bake 0;", 0, 2);
        runs("bake 41;", 0, 2);
        runs("bake 1;", 0, 3);
        runs("join 2;", 0, 3);
        runs("join 3;", 1, 0);
        OvenDays full = Setup.many(8);
        Setup.run(full, "join 3;");
        is("a ninth household", full.stop(), 3);
        Setup.run(full, "join 0;");
        is("a ninth household, and no mark", full.stop(), 2);
        OvenDays batches = nineteen();
        Setup.run(batches, "bring 0 0 1;bring 0 0 1;");
        is("a 21st batch", batches.stop(), 3);
        Setup.run(batches, "bring 0 0 13;");
        is("a 21st batch with too many loaves", batches.stop(), 2);
    }
}

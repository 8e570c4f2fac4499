/** What several tests need to make a village ready. */
final class Setup {
    private Setup() {
    }

    static OvenDays with(int... marks) {
        OvenDays x = new OvenDays();
        for (int mark : marks) {
            x.join(mark);
        }
        return x;
    }

    static int run(OvenDays x, String commands) {
        x.clearCommands();
        type(x, commands);
        return x.runCommands();
    }

    static void type(OvenDays x, String commands) {
        for (int index = 0; index < commands.length(); index++) {
            x.type(commands.charAt(index));
        }
    }

    /** The least s after which numbers are drawn as asked: each time a bound and the number below it. */
    static int seedFor(int... boundsAndNumbers) {
        for (int seed = 0; seed < 100_000_000; seed++) {
            if (draws(seed, boundsAndNumbers)) {
                return seed;
            }
        }
        throw new IllegalStateException("no such seed");
    }

    private static boolean draws(int seed, int[] boundsAndNumbers) {
        long s = seed;
        for (int index = 0; index < boundsAndNumbers.length; index += 2) {
            s = (1103515245L * s + 12345L) % 2147483648L;
            if (s / 65536 % boundsAndNumbers[index] != boundsAndNumbers[index + 1]) {
                return false;
            }
        }
        return true;
    }

    /** The hash that is due, by what the other methods answer. */
    static long digestOf(OvenDays x, int undoStates, int textLength) {
        long h = 43087;
        h = 31 * h + undoStates;
        h = 31 * h + textLength;
        h = 31 * h + x.stop();
        for (int what = 0; what <= 13; what++) {
            h = 31 * h + x.whole(what);
        }
        for (int household = 0; household < x.whole(0); household++) {
            for (int what = 0; what <= 7; what++) {
                h = 31 * h + x.household(household, what);
            }
            h = 31 * h + x.due(household);
            for (int kind = 0; kind <= 2; kind++) {
                h = 31 * h + x.balance(household, kind);
            }
        }
        h = 31 * h + x.nextForWood();
        for (int batch = 0; batch < x.whole(3); batch++) {
            for (int what = 0; what <= 3; what++) {
                h = 31 * h + x.batch(batch, what);
            }
        }
        for (int loaf = x.whole(7) - x.whole(9); loaf < x.whole(7); loaf++) {
            h = 31 * h + loaf;
            for (int what = 0; what <= 6; what++) {
                h = 31 * h + x.loaf(loaf, what);
            }
        }
        for (int load = 0; load < x.whole(12); load++) {
            for (int what = 0; what <= 4; what++) {
                h = 31 * h + x.load(load, what);
            }
        }
        return 31 * h + x.likeMarks();
    }
}

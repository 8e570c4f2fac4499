import java.math.BigInteger;
import java.util.ArrayList;
import java.util.Arrays;
import java.util.HashMap;
import java.util.List;
import java.util.Map;
import java.util.function.Supplier;

/** What several tests need to make a village ready. */
final class Setup {
    private static final Map<String, Integer> SEEDS = new HashMap<>();

    private Setup() {
    }

    static OvenDays with(int... marks) {
        OvenDays x = new OvenDays();
        for (int mark : marks) {
            x.join(mark);
        }
        return x;
    }

    /** Households with one groove each, from groove 0 on. */
    static OvenDays many(int households) {
        OvenDays x = new OvenDays();
        for (int household = 0; household < households; household++) {
            x.join(1 << household);
        }
        return x;
    }

    /** Household 0 brings loaves of a kind, in batches of 12 and a rest. */
    static void bring(OvenDays x, int kind, int loaves) {
        for (int left = loaves; left > 0; left -= 12) {
            x.bring(0, kind, Math.min(12, left));
        }
    }

    /** A day with loaves of one kind by household 0. */
    static int day(OvenDays x, int wood, int kind, int loaves) {
        bring(x, kind, loaves);
        return x.bake(wood);
    }

    /** A village of one household after its first day. */
    static OvenDays after(int wood, int kind, int loaves) {
        OvenDays x = with(65535);
        day(x, wood, kind, loaves);
        return x;
    }

    /** Three households with something of all that a village can have. */
    static OvenDays rich() {
        OvenDays x = with(7, 11, 3);
        int firstOfTwo = seedFor(4, 1, 16, 2, 4, 0);
        doubtfulDay(x, firstOfTwo, 0, 1);
        x.giveAway();
        // Household 1 brings the wood, so loaf 4 is that of household 0, and goes to household 2 by its print.
        doubtfulDay(x, seedFor(4, 0, 4, 0, 4, 1, 16, 2), 0, 1, 2);
        x.excuse(1);
        x.excuse(2);
        doubtfulDay(x, firstOfTwo, 0, 1);
        run(x, "excuse 0;bake 0;");
        x.excuse(1);
        x.bring(2, 1, 5);
        x.setS(77);
        // Three states are left, so that there is room for one more.
        x.undo();
        return x;
    }

    private static void doubtfulDay(OvenDays x, int seed, int... bringers) {
        for (int household : bringers) {
            x.bring(household, 0, 1);
        }
        x.setS(seed);
        x.bake(30);
    }

    static OvenDays typed(OvenDays x, String commands) {
        type(x, commands);
        return x;
    }

    static int run(OvenDays x, String commands) {
        x.clearCommands();
        type(x, commands);
        return x.runCommands();
    }

    static void type(OvenDays x, String commands) {
        for (int index = 0; index < commands.length(); index++) {
            x.type(commands.charAt(index));
        }
    }

    /** The least s after which numbers are drawn as asked: each time a bound and the number below it. */
    static int seedFor(int... boundsAndNumbers) {
        return SEEDS.computeIfAbsent(Arrays.toString(boundsAndNumbers), name -> search(boundsAndNumbers));
    }

    private static int search(int[] boundsAndNumbers) {
        for (int seed = 0; seed < 200_000_000; seed++) {
            if (draws(seed, boundsAndNumbers)) {
                return seed;
            }
        }
        throw new IllegalStateException("no such seed");
    }

    private static boolean draws(int seed, int[] boundsAndNumbers) {
        long s = seed;
        for (int index = 0; index < boundsAndNumbers.length; index += 2) {
            s = (1103515245L * s + 12345L) % 2147483648L;
            if (s / 65536 % boundsAndNumbers[index] != boundsAndNumbers[index + 1]) {
                return false;
            }
        }
        return true;
    }

    /** A village that is made anew before it has been used too often. */
    private static final class Renewed {
        private static final int READS = 300;

        private final Supplier<OvenDays> maker;
        private OvenDays village;
        private int reads;

        Renewed(Supplier<OvenDays> maker) {
            this.maker = maker;
        }

        OvenDays get() {
            if (reads % READS == 0) {
                village = maker.get();
            }
            reads++;
            return village;
        }
    }

    /** The hash that is due, by what the other methods answer of a village that needs few calls to be read. */
    static long digestOf(OvenDays x, int undoStates, int textLength) {
        return digestOf(() -> x, undoStates, textLength);
    }

    /** The hash that is due, by what the other methods answer of villages that are made alike. */
    static long digestOf(Supplier<OvenDays> maker, int undoStates, int textLength) {
        Renewed x = new Renewed(maker);
        List<Long> values = new ArrayList<>(List.of((long) undoStates, (long) textLength, (long) x.get().stop()));
        for (int what = 0; what <= 13; what++) {
            values.add((long) x.get().whole(what));
        }
        for (int household = 0; household < x.get().whole(0); household++) {
            for (int what = 0; what <= 7; what++) {
                values.add((long) x.get().household(household, what));
            }
            values.add(x.get().due(household));
            for (int kind = 0; kind <= 2; kind++) {
                values.add((long) x.get().balance(household, kind));
            }
        }
        values.add((long) x.get().nextForWood());
        for (int batch = 0; batch < x.get().whole(3); batch++) {
            for (int what = 0; what <= 3; what++) {
                values.add((long) x.get().batch(batch, what));
            }
        }
        addLoavesAndLoads(values, x);
        values.add((long) x.get().likeMarks());
        return hashOf(values);
    }

    private static void addLoavesAndLoads(List<Long> values, Renewed x) {
        for (int loaf = x.get().whole(7) - x.get().whole(9); loaf < x.get().whole(7); loaf++) {
            values.add((long) loaf);
            for (int what = 0; what <= 6; what++) {
                values.add((long) x.get().loaf(loaf, what));
            }
        }
        for (int load = 0; load < x.get().whole(12); load++) {
            for (int what = 0; what <= 4; what++) {
                values.add((long) x.get().load(load, what));
            }
        }
    }

    /** By numbers without a bound, of which the lowest 64 bits are taken at last. */
    static long hashOf(List<Long> values) {
        BigInteger hash = BigInteger.valueOf(43087);
        for (long value : values) {
            hash = hash.multiply(BigInteger.valueOf(31)).add(BigInteger.valueOf(value));
        }
        return hash.longValue();
    }
}

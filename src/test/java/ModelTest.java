/** Long mixed runs of calls, in which the class must answer as the model does. */
public final class ModelTest {
    private static final int RUNS = 400;
    private static final int CALLS = 512;
    private static final int CALLS_OF_A_TEXT = 130;
    private static final int TEXTS = 30_000;
    private static final int METHODS = 28;
    private static final String[] PIECES = {"join ", "bring ", "bake ", "claim ", "return ", "excuse ", "give", ";",
        "; ", " ;", " ", "0", "1", "2", "3 ", "12", "40", "7 1 5", "12345", "jon", "x", "bring 0 1 5;", "bring 1 2 12;",
        "bake 25;", "bake 12;", "claim 0;", "claim 1 ;", "return 2;", "give;", "excuse 0;", "join 96;", "bring 1 0 9;"};
    private static final String[] COMMANDS = {"bring 0 0 12;", "bring 1 1 7 ; ", "bring 2 2 3;", " bake 26;", "bake 9;",
        "claim 0;", "claim 1;", "return 0;", "return 1;", "give;", "excuse 1;", "join 5;", "bring 3 2 12;", "join 0;"};
    private static final int[] ODD = {-1, -2, Integer.MIN_VALUE, Integer.MAX_VALUE, 8, 13, 20, 41, 65536, 128, 0};

    private static final Check check = new Check();
    private static long random;
    private static int used;

    public static void main(String[] args) {
        for (int run = 0; run < RUNS; run++) {
            random = 7919L * run + 17;
            mixedCalls(run);
        }
        for (int run = 0; run < TEXTS; run++) {
            random = 104729L * run + 3;
            oneText(run);
        }
        check.end();
    }

    private static int pick(int below) {
        random = random * 6364136223846793005L + 1442695040888963407L;
        return (int) ((random >>> 33) % below);
    }

    private static void mixedCalls(int run) {
        OvenDays x = new OvenDays();
        OvenModel y = new OvenModel();
        int households = 2 + pick(7);
        int oftenUndone = pick(3);
        used = 0;
        while (used < CALLS) {
            int picked = used < households ? 0 : pickMethod(oftenUndone);
            int method = picked == METHODS && used + CALLS_OF_A_TEXT > CALLS ? 3 : picked;
            int[] args = argumentsOf(method, y);
            String what = "run " + run + ", call " + used + ", method " + method + " of " + args[0] + ", " + args[1]
                    + ", " + args[2];
            if (method == METHODS) {
                typeSome(x, y);
            } else {
                both(what, () -> answer(x, method, args), () -> answer(y, method, args));
            }
            if (used < CALLS && pick(8) == 0) {
                both(what + ": digest", x::digest, y::digest);
            }
        }
    }

    private static void both(String what, Check.Call got, Check.Call due) {
        used++;
        check.same(what, got, due);
    }

    /** A number of a method, or METHODS for typing a whole text. */
    private static int pickMethod(int oftenUndone) {
        int chance = pick(100);
        if (chance < 40) {
            return 3;
        }
        if (chance < 48) {
            return 6;
        }
        if (chance < 56) {
            return 7 + pick(3);
        }
        if (chance < 60) {
            return METHODS;
        }
        int method = pick(METHODS);
        return method == 26 && oftenUndone == 0 ? 3 : method;
    }

    private static int[] argumentsOf(int method, OvenModel y) {
        int household = pick(Math.max(1, (int) y.whole(0)));
        int[] args = switch (method) {
            case 0 -> new int[] {mark(), 0, 0};
            case 1 -> new int[] {household, mark(), 0};
            case 3 -> new int[] {household, pick(3), 1 + pick(12)};
            case 4 -> new int[] {pick(Math.max(1, (int) y.whole(3))), 0, 0};
            case 5 -> new int[] {pick(Integer.MAX_VALUE), 0, 0};
            case 6, 18 -> new int[] {1 + pick(40), 0, 0};
            case 10 -> new int[] {household, pick(8), 0};
            case 13 -> new int[] {household, pick(3), 0};
            case 14 -> new int[] {pick((int) y.whole(3) + 1), pick(4), 0};
            case 15 -> new int[] {(int) y.whole(7) - pick((int) y.whole(9) + 2), pick(7), 0};
            case 16 -> new int[] {pick((int) y.whole(12) + 1), pick(5), 0};
            case 17 -> new int[] {pick(14), 0, 0};
            case 21 -> new int[] {1 + pick(16), 0, 0};
            case 22 -> new int[] {pick(128), 0, 0};
            default -> new int[] {household, 0, 0};
        };
        if (pick(12) == 0) {
            args[pick(3)] = ODD[pick(ODD.length)];
        }
        return args;
    }

    /** Mostly marks of few grooves beside each other, so that many loaves are doubtful. */
    private static int mark() {
        return pick(4) == 0 ? 1 + pick(65535) : (1 + pick(31)) << pick(2);
    }

    private static void typeSome(OvenDays x, OvenModel y) {
        both("clearCommands", x::clearCommands, y::clearCommands);
        int pieces = 1 + pick(9);
        for (int piece = 0; piece < pieces; piece++) {
            typePiece(x, y, COMMANDS[pick(COMMANDS.length)]);
        }
        both("runCommands", x::runCommands, y::runCommands);
        both("stop", x::stop, y::stop);
    }

    private static void typePiece(OvenDays x, OvenModel y, String piece) {
        for (char sign : piece.toCharArray()) {
            both("type", () -> x.type(sign), () -> y.type(sign));
        }
    }

    private static void oneText(int run) {
        OvenDays x = new OvenDays();
        OvenModel y = new OvenModel();
        x.join(3);
        y.join(3);
        StringBuilder text = new StringBuilder();
        int pieces = pick(10);
        for (int piece = 0; piece < pieces; piece++) {
            String next = pick(30) == 0 ? String.valueOf((char) pick(128)) : PIECES[pick(PIECES.length)];
            text.append(next);
            typePiece(x, y, next);
        }
        check.same("text " + run + " '" + text + "'", x::runCommands, y::runCommands);
        check.is("digest after '" + text + "'", x.digest(), y.digest());
    }

    private static long answer(OvenDays x, int method, int[] a) {
        return switch (method) {
            case 0 -> x.join(a[0]);
            case 1 -> x.remark(a[0], a[1]);
            case 2 -> x.excuse(a[0]);
            case 3 -> x.bring(a[0], a[1], a[2]);
            case 4 -> x.takeBack(a[0]);
            case 5 -> x.setS(a[0]);
            case 6 -> x.bake(a[0]);
            case 7 -> x.claim(a[0]);
            case 8 -> x.returnLoaves(a[0]);
            case 9 -> x.giveAway();
            case 10 -> x.household(a[0], a[1]);
            case 11 -> x.due(a[0]);
            case 12 -> x.nextForWood();
            case 13 -> x.balance(a[0], a[1]);
            case 14 -> x.batch(a[0], a[1]);
            case 15 -> x.loaf(a[0], a[1]);
            case 16 -> x.load(a[0], a[1]);
            case 17 -> x.whole(a[0]);
            case 18 -> x.doughWith(a[0]);
            case 19 -> x.bestWood();
            case 20 -> x.likeMarks();
            case 21 -> x.freeMark(a[0]);
            case 22 -> x.type(a[0]);
            case 23 -> x.clearCommands();
            case 24 -> x.runCommands();
            case 25 -> x.stop();
            case 26 -> x.undo();
            default -> x.digest();
        };
    }

    private static long answer(OvenModel x, int method, int[] a) {
        return switch (method) {
            case 0 -> x.join(a[0]);
            case 1 -> x.remark(a[0], a[1]);
            case 2 -> x.excuse(a[0]);
            case 3 -> x.bring(a[0], a[1], a[2]);
            case 4 -> x.takeBack(a[0]);
            case 5 -> x.setS(a[0]);
            case 6 -> x.bake(a[0]);
            case 7 -> x.claim(a[0]);
            case 8 -> x.returnLoaves(a[0]);
            case 9 -> x.giveAway();
            case 10 -> x.household(a[0], a[1]);
            case 11 -> x.due(a[0]);
            case 12 -> x.nextForWood();
            case 13 -> x.balance(a[0], a[1]);
            case 14 -> x.batch(a[0], a[1]);
            case 15 -> x.loaf(a[0], a[1]);
            case 16 -> x.load(a[0], a[1]);
            case 17 -> x.whole(a[0]);
            case 18 -> x.doughWith(a[0]);
            case 19 -> x.bestWood();
            case 20 -> x.likeMarks();
            case 21 -> x.freeMark(a[0]);
            case 22 -> x.type(a[0]);
            case 23 -> x.clearCommands();
            case 24 -> x.runCommands();
            case 25 -> x.stop();
            case 26 -> x.undo();
            default -> x.digest();
        };
    }
}

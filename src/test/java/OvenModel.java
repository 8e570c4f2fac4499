import java.util.ArrayDeque;
import java.util.ArrayList;
import java.util.Comparator;
import java.util.Deque;
import java.util.List;
import java.util.Set;
import java.util.TreeSet;
import java.util.regex.Matcher;
import java.util.regex.Pattern;

/** The document told a second time, word by word and without regard to speed, to compare the class with. */
final class OvenModel {
    private static final class House {
        int mark;
        int wood;
        int loaves;
        boolean excused;

        House copy() {
            House other = new House();
            other.mark = mark;
            other.wood = wood;
            other.loaves = loaves;
            other.excused = excused;
            return other;
        }
    }

    private record Batch(int household, int kind, int loaves) {
    }

    private record Load(int kind, int batches, int loaves, int in, int out) {
    }

    private static final class Loaf {
        int number;
        int owner;
        int kind;
        int day;
        int pale;
        int print;
        int holder;
        int lost;

        Loaf copy() {
            Loaf other = new Loaf();
            other.number = number;
            other.owner = owner;
            other.kind = kind;
            other.day = day;
            other.pale = pale;
            other.print = print;
            other.holder = holder;
            other.lost = lost;
            return other;
        }
    }

    private static final class State {
        final List<House> houses = new ArrayList<>();
        final List<Batch> batches = new ArrayList<>();
        final List<Load> loads = new ArrayList<>();
        final List<Loaf> loaves = new ArrayList<>();
        int heat = 20;
        int days;
        int dough;
        int cameOut;
        int pale;
        long s = 1;

        State copy() {
            State other = new State();
            houses.forEach(house -> other.houses.add(house.copy()));
            other.batches.addAll(batches);
            other.loads.addAll(loads);
            loaves.forEach(loaf -> other.loaves.add(loaf.copy()));
            other.heat = heat;
            other.days = days;
            other.dough = dough;
            other.cameOut = cameOut;
            other.pale = pale;
            other.s = s;
            return other;
        }
    }

    private static final int[][] HEATS = {{260, 400}, {180, 300}, {90, 200}};
    private static final int[] TICKS = {2, 5, 8};

    private State now = new State();
    private final Deque<State> saved = new ArrayDeque<>();
    private final StringBuilder text = new StringBuilder();
    private int stop;
    private boolean running;

    private void save(State before) {
        if (running) {
            return;
        }
        saved.addLast(before);
        if (saved.size() > 4) {
            saved.removeFirst();
        }
    }

    private House house(int household) {
        if (household < 0 || household >= now.houses.size()) {
            throw new IndexOutOfBoundsException();
        }
        return now.houses.get(household);
    }

    private static void within(int value, int least, int greatest) {
        if (value < least || value > greatest) {
            throw new IllegalArgumentException();
        }
    }

    long join(int mark) {
        within(mark, 1, 65535);
        if (now.houses.size() == 8 || now.houses.stream().anyMatch(house -> house.mark == mark)) {
            throw new IllegalStateException();
        }
        save(now.copy());
        House house = new House();
        house.mark = mark;
        now.houses.add(house);
        return now.houses.size() - 1;
    }

    long remark(int household, int mark) {
        House changed = house(household);
        within(mark, 1, 65535);
        if (now.houses.stream().anyMatch(house -> house != changed && house.mark == mark)) {
            throw new IllegalStateException();
        }
        save(now.copy());
        long previous = changed.mark;
        changed.mark = mark;
        return previous;
    }

    long excuse(int household) {
        House excused = house(household);
        save(now.copy());
        excused.excused = true;
        return now.houses.stream().filter(house -> house.excused).count();
    }

    long bring(int household, int kind, int loaves) {
        house(household);
        within(kind, 0, 2);
        within(loaves, 1, 12);
        if (now.batches.size() == 20) {
            throw new IllegalStateException();
        }
        save(now.copy());
        now.batches.add(new Batch(household, kind, loaves));
        return now.batches.size() - 1;
    }

    long takeBack(int batch) {
        if (batch < 0 || batch >= now.batches.size()) {
            throw new IndexOutOfBoundsException();
        }
        save(now.copy());
        return now.batches.remove(batch).loaves();
    }

    long setS(int value) {
        within(value, 0, Integer.MAX_VALUE);
        save(now.copy());
        long previous = now.s;
        now.s = value;
        return previous;
    }

    long bake(int wood) {
        within(wood, 1, 40);
        if (now.batches.isEmpty()) {
            throw new IllegalStateException();
        }
        save(now.copy());
        int before = now.cameOut;
        haveDay(wood);
        return now.cameOut - before;
    }

    private void haveDay(int wood) {
        int before = now.cameOut;
        List<Batch> waiting = inBakingOrder();
        now.houses.get((int) nextForWood()).wood += wood;
        now.houses.forEach(house -> house.excused = false);
        now.heat = Math.min(400, now.heat + 10 * wood);
        now.loads.clear();
        Set<Integer> bakers = new TreeSet<>();
        while (!waiting.isEmpty()) {
            int kind = warmestKind(waiting);
            if (kind >= 0) {
                bakeLoad(waiting, kind, bakers);
            } else if (waiting.stream().anyMatch(batch -> now.heat > HEATS[batch.kind()][1])) {
                now.heat = Math.max(20, now.heat - 5);
            } else {
                waiting.forEach(batch -> now.dough += batch.loaves());
                waiting.clear();
            }
        }
        now.batches.clear();
        now.heat = Math.max(20, Math.floorDiv(now.heat, 2));
        now.days++;
        now.loaves.stream().filter(loaf -> loaf.number >= before).forEach(loaf -> sort(loaf, bakers));
    }

    private int warmestKind(List<Batch> waiting) {
        return waiting.stream().map(Batch::kind)
                .filter(kind -> HEATS[kind][0] <= now.heat && now.heat <= HEATS[kind][1])
                .max(Comparator.comparing(kind -> HEATS[kind][0])).orElse(-1);
    }

    private void bakeLoad(List<Batch> waiting, int kind, Set<Integer> bakers) {
        List<Batch> inside = new ArrayList<>();
        int room = 24;
        for (Batch batch : List.copyOf(waiting)) {
            if (batch.kind() == kind && batch.loaves() <= room) {
                inside.add(batch);
                room -= batch.loaves();
            }
        }
        // Two batches may be equal, so the first equal one of those that wait is taken for each.
        inside.forEach(waiting::remove);
        int in = now.heat;
        for (int tick = 0; tick < TICKS[kind]; tick++) {
            now.heat = Math.max(20, now.heat - 5 - (24 - room) / 8);
        }
        now.loads.add(new Load(kind, inside.size(), 24 - room, in, now.heat));
        for (Batch batch : inside) {
            bakers.add(batch.household());
            now.houses.get(batch.household()).loaves += batch.loaves();
            for (int loaf = 0; loaf < batch.loaves(); loaf++) {
                comeOut(batch);
            }
        }
    }

    private void comeOut(Batch batch) {
        Loaf loaf = new Loaf();
        loaf.number = now.cameOut++;
        loaf.owner = batch.household();
        loaf.kind = batch.kind();
        loaf.day = now.days;
        loaf.pale = now.heat < HEATS[loaf.kind][0] - 30 ? 1 : 0;
        now.pale += loaf.pale;
        int mark = now.houses.get(loaf.owner).mark;
        loaf.print = mark;
        int losses = draw(4);
        for (int loss = 0; loss < losses; loss++) {
            int groove = draw(16);
            if ((loaf.print & 1 << groove) != 0) {
                loaf.print ^= 1 << groove;
                loaf.lost++;
            }
        }
        now.loaves.add(loaf);
        if (now.loaves.size() > 200) {
            now.loaves.remove(0);
        }
    }

    private int draw(int below) {
        now.s = (1103515245L * now.s + 12345L) % 2147483648L;
        return (int) (now.s / 65536 % below);
    }

    private void sort(Loaf loaf, Set<Integer> bakers) {
        List<Integer> meant = bakers.stream()
                .filter(household -> (now.houses.get(household).mark | loaf.print) == now.houses.get(household).mark)
                .toList();
        loaf.holder = 8;
        for (int household : meant) {
            int distance = distance(household, loaf);
            if (meant.stream().allMatch(other -> other == household || distance(other, loaf) > distance)) {
                loaf.holder = household;
            }
        }
    }

    private int distance(int household, Loaf loaf) {
        return Integer.bitCount(now.houses.get(household).mark) - Integer.bitCount(loaf.print);
    }

    private List<Batch> inBakingOrder() {
        List<Batch> ordered = new ArrayList<>();
        if (!now.houses.isEmpty()) {
            int first = (int) nextForWood();
            for (int turn = 0; turn < now.houses.size(); turn++) {
                int household = (first + turn) % now.houses.size();
                now.batches.stream().filter(batch -> batch.household() == household).forEach(ordered::add);
            }
        }
        return ordered;
    }

    private int placeOf(int batch) {
        int household = now.batches.get(batch).household();
        int turn = Math.floorMod(household - (int) nextForWood(), now.houses.size());
        int place = 0;
        for (int other = 0; other < now.batches.size(); other++) {
            int otherHousehold = now.batches.get(other).household();
            int otherTurn = Math.floorMod(otherHousehold - (int) nextForWood(), now.houses.size());
            if (otherTurn < turn || otherTurn == turn && other < batch) {
                place++;
            }
        }
        return place;
    }

    long claim(int household) {
        House claiming = house(household);
        save(now.copy());
        int moved = 0;
        for (int kind = 0; kind < 3; kind++) {
            int wanted = kind;
            while (balance(household, kind) > 0) {
                var found = now.loaves.stream().filter(loaf -> loaf.kind == wanted && loaf.holder == 8
                        && (loaf.print & ~claiming.mark) == 0).min(Comparator.comparing(loaf -> loaf.number));
                if (found.isEmpty()) {
                    break;
                }
                found.get().holder = household;
                moved++;
            }
        }
        return moved;
    }

    long returnLoaves(int household) {
        house(household);
        save(now.copy());
        int moved = 0;
        for (int kind = 0; kind < 3; kind++) {
            int wanted = kind;
            while (balance(household, kind) < 0) {
                now.loaves.stream().filter(loaf -> loaf.kind == wanted && loaf.holder == household
                        && loaf.owner != household).max(Comparator.comparing(loaf -> loaf.number))
                        .orElseThrow().holder = 8;
                moved++;
            }
        }
        return moved;
    }

    long giveAway() {
        save(now.copy());
        int moved = 0;
        for (Loaf loaf : now.loaves) {
            if (loaf.holder == 8) {
                loaf.holder = -1;
                moved++;
            }
        }
        return moved;
    }

    long household(int household, int what) {
        House house = house(household);
        within(what, 0, 7);
        return switch (what) {
            case 0 -> house.mark;
            case 1 -> house.wood;
            case 2 -> house.loaves;
            case 3 -> house.excused ? 1 : 0;
            case 4 -> now.loaves.stream().filter(loaf -> loaf.owner == household).count();
            case 5 -> now.loaves.stream().filter(loaf -> loaf.holder == household).count();
            case 6 -> now.loaves.stream().filter(loaf -> loaf.owner == household && loaf.holder == household).count();
            default -> now.batches.stream().filter(batch -> batch.household() == household).count();
        };
    }

    long due(int household) {
        House house = house(household);
        return whole(4) * house.loaves - whole(5) * house.wood;
    }

    long nextForWood() {
        List<Integer> asked = new ArrayList<>();
        for (int household = 0; household < now.houses.size(); household++) {
            if (!now.houses.get(household).excused || now.houses.stream().allMatch(house -> house.excused)) {
                asked.add(household);
            }
        }
        return asked.stream().min(Comparator.comparing((Integer household) -> -due(household))
                .thenComparing(household -> household)).orElse(-1);
    }

    long balance(int household, int kind) {
        house(household);
        within(kind, 0, 2);
        return now.loaves.stream().filter(loaf -> loaf.kind == kind && loaf.owner == household).count()
                - now.loaves.stream().filter(loaf -> loaf.kind == kind && loaf.holder == household).count();
    }

    long batch(int batch, int what) {
        within(batch, 0, Integer.MAX_VALUE);
        within(what, 0, 3);
        if (batch >= now.batches.size()) {
            return -1;
        }
        Batch found = now.batches.get(batch);
        return switch (what) {
            case 0 -> found.household();
            case 1 -> found.kind();
            case 2 -> found.loaves();
            default -> placeOf(batch);
        };
    }

    long loaf(int number, int what) {
        Loaf loaf = now.loaves.stream().filter(kept -> kept.number == number).findFirst().orElse(null);
        if (loaf == null) {
            throw new IndexOutOfBoundsException();
        }
        within(what, 0, 6);
        return new int[] {loaf.owner, loaf.kind, loaf.day, loaf.pale, loaf.print, loaf.holder, loaf.lost}[what];
    }

    long load(int number, int what) {
        within(number, 0, Integer.MAX_VALUE);
        within(what, 0, 4);
        if (number >= now.loads.size()) {
            return -1;
        }
        Load load = now.loads.get(number);
        return new int[] {load.kind(), load.batches(), load.loaves(), load.in(), load.out()}[what];
    }

    long whole(int what) {
        within(what, 0, 13);
        return switch (what) {
            case 0 -> now.houses.size();
            case 1 -> now.days;
            case 2 -> now.heat;
            case 3 -> now.batches.size();
            case 4 -> now.houses.stream().mapToInt(house -> house.wood).sum();
            case 5 -> now.houses.stream().mapToInt(house -> house.loaves).sum();
            case 6 -> now.dough;
            case 7 -> now.cameOut;
            case 8 -> now.pale;
            case 9 -> now.loaves.size();
            case 10 -> now.loaves.stream().filter(loaf -> loaf.holder == 8).count();
            case 11 -> now.loaves.stream()
                    .filter(loaf -> loaf.holder >= 0 && loaf.holder < 8 && loaf.holder != loaf.owner).count();
            case 12 -> now.loads.size();
            default -> now.s;
        };
    }

    long doughWith(int wood) {
        within(wood, 1, 40);
        if (now.batches.isEmpty()) {
            return 0;
        }
        State before = now;
        now = before.copy();
        haveDay(wood);
        long dough = now.dough - before.dough;
        now = before;
        return dough;
    }

    long bestWood() {
        if (now.batches.isEmpty()) {
            return -1;
        }
        int best = 1;
        for (int wood = 2; wood <= 40; wood++) {
            if (doughWith(wood) < doughWith(best)) {
                best = wood;
            }
        }
        return best;
    }

    long likeMarks() {
        long pairs = 0;
        for (House one : now.houses) {
            pairs += now.houses.stream().filter(other -> other != one && (other.mark & one.mark) == one.mark).count();
        }
        return pairs;
    }

    long freeMark(int grooves) {
        within(grooves, 1, 16);
        for (int mark = 1; mark <= 65535; mark++) {
            int free = mark;
            if (Integer.bitCount(mark) == grooves && now.houses.stream().noneMatch(
                    house -> (house.mark & free) == house.mark || (house.mark & free) == free)) {
                return mark;
            }
        }
        return -1;
    }

    long type(int value) {
        within(value, 0, 127);
        if (text.length() == 150) {
            throw new IllegalStateException();
        }
        text.append((char) value);
        return text.length();
    }

    long clearCommands() {
        int length = text.length();
        text.setLength(0);
        return length;
    }

    private static final String ONE = "( +[0-9]{1,5})";
    private static final Pattern TEXT = Pattern.compile("( *((join|bake|claim|return|excuse)" + ONE
            + "|bring" + ONE + ONE + ONE + "|give) *;)* *");
    private static final Pattern WORD = Pattern.compile("(?<=^|;)( *)([a-z]+)");
    private static final Set<String> WORDS = Set.of("join", "bake", "claim", "return", "excuse", "bring", "give");

    /** The least index at which the text is no longer the beginning of a right one, unless a word is wrong before. */
    private int fault() {
        int fault = -1;
        if (!TEXT.matcher(text).matches()) {
            fault = 0;
            while (fault < text.length() && begins(text.substring(0, fault + 1))) {
                fault++;
            }
        }
        Matcher words = WORD.matcher(text);
        while (fault >= 0 && words.find() && words.start(2) <= fault) {
            if (!WORDS.contains(words.group(2))) {
                return words.start(2);
            }
        }
        return fault;
    }

    private static boolean begins(String start) {
        Matcher matcher = TEXT.matcher(start);
        return matcher.matches() || matcher.hitEnd();
    }

    long runCommands() {
        int fault = fault();
        if (fault >= 0) {
            return -10 - fault;
        }
        save(now.copy());
        running = true;
        stop = 0;
        int done = 0;
        for (String command : text.toString().split(";")) {
            if (command.isBlank() || stop != 0) {
                continue;
            }
            String[] parts = command.trim().split(" +");
            try {
                carryOut(parts);
                done++;
            } catch (IndexOutOfBoundsException e) {
                stop = 1;
            } catch (IllegalArgumentException e) {
                stop = 2;
            } catch (IllegalStateException e) {
                stop = 3;
            }
        }
        running = false;
        return done;
    }

    private void carryOut(String[] parts) {
        int[] numbers = new int[3];
        for (int part = 1; part < parts.length; part++) {
            numbers[part - 1] = Integer.parseInt(parts[part]);
        }
        switch (parts[0]) {
            case "join" -> join(numbers[0]);
            case "bring" -> bring(numbers[0], numbers[1], numbers[2]);
            case "bake" -> bake(numbers[0]);
            case "claim" -> claim(numbers[0]);
            case "return" -> returnLoaves(numbers[0]);
            case "excuse" -> excuse(numbers[0]);
            default -> giveAway();
        }
    }

    long stop() {
        return stop;
    }

    long undo() {
        if (saved.isEmpty()) {
            throw new IllegalStateException();
        }
        now = saved.removeLast();
        return saved.size();
    }

    long digest() {
        List<Long> values = new ArrayList<>(List.of((long) saved.size(), (long) text.length(), (long) stop));
        for (int what = 0; what <= 13; what++) {
            values.add(whole(what));
        }
        for (int household = 0; household < now.houses.size(); household++) {
            for (int what = 0; what <= 7; what++) {
                values.add(household(household, what));
            }
            values.add(due(household));
            for (int kind = 0; kind <= 2; kind++) {
                values.add(balance(household, kind));
            }
        }
        values.add(nextForWood());
        for (int batch = 0; batch < now.batches.size(); batch++) {
            for (int what = 0; what <= 3; what++) {
                values.add(batch(batch, what));
            }
        }
        for (Loaf loaf : now.loaves) {
            for (int value : new int[] {loaf.number, loaf.owner, loaf.kind, loaf.day, loaf.pale, loaf.print,
                    loaf.holder, loaf.lost}) {
                values.add((long) value);
            }
        }
        for (Load load : now.loads) {
            for (int value : new int[] {load.kind(), load.batches(), load.loaves(), load.in(), load.out()}) {
                values.add((long) value);
            }
        }
        values.add(likeMarks());
        long hash = 43087;
        for (long value : values) {
            hash = 31 * hash + value;
        }
        return hash;
    }
}

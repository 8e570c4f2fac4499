/** The days of a village oven: households, batches, loads, marked loaves, claims, commands and undo. */
public final class OvenDays {

    public static final int NONE = -1;
    public static final int SHELF = 8;

    private static final int MAX_HOUSEHOLDS = 8;
    private static final int MAX_BATCHES = 20;
    private static final int MAX_BATCH_LOAVES = 12;
    private static final int MAX_WOOD = 40;
    private static final int MAX_MARK = 65535;
    private static final int GROOVES = 16;
    private static final int KINDS = 3;
    private static final int COLD = 20;

    // Why a call is refused; the numbers are those that stop() answers.
    private static final int ALLOWED = 0;
    private static final int NO_SUCH_NUMBER = 1;
    private static final int OUT_OF_RANGE = 2;
    private static final int NOT_NOW = 3;

    // The columns of the tables stand in the order in which the document numbers the values.
    private static final int MARK = 0;
    private static final int WOOD = 1;
    private static final int PUT_IN = 2;
    private static final int EXCUSED = 3;
    private static final int HOUSEHOLD_COLUMNS = 4;

    private static final int BATCH_HOUSEHOLD = 0;
    private static final int BATCH_KIND = 1;
    private static final int BATCH_LOAVES = 2;
    private static final int BATCH_COLUMNS = 3;

    private static final int LOAD_KIND = 0;
    private static final int LOAD_BATCHES = 1;
    private static final int LOAD_LOAVES = 2;
    private static final int LOAD_HEAT_IN = 3;
    private static final int LOAD_HEAT_OUT = 4;
    private static final int LOAD_COLUMNS = 5;

    private static final int OWNER = 0;
    private static final int LOAF_KIND = 1;
    private static final int DAY = 2;
    private static final int PALE = 3;
    private static final int PRINT = 4;
    private static final int HOLDER = 5;
    private static final int LOST_GROOVES = 6;
    private static final int LOAF_COLUMNS = 7;

    private static final int HOUSEHOLD_VALUES = 8;
    private static final int BATCH_VALUES = 4;
    private static final int WHOLE_VALUES = 14;

    private final Village village = new Village();
    private final DayPlan plan = new DayPlan();
    private final UndoStack undoStack = new UndoStack();
    private final CommandText text = new CommandText();
    private int stop = ALLOWED;

    public OvenDays() {
    }

    // ---- households

    public int join(int mark) throws IllegalArgumentException, IllegalStateException {
        refuse(village.whyNoJoining(mark));
        undoStack.push(village);
        return village.households.add(mark);
    }

    public int remark(int household, int mark)
            throws IndexOutOfBoundsException, IllegalArgumentException, IllegalStateException {
        refuse(village.whyNoOtherMark(household, mark));
        undoStack.push(village);
        return village.households.changeMark(household, mark);
    }

    public int excuse(int household) throws IndexOutOfBoundsException {
        refuse(village.whyNoHousehold(household));
        undoStack.push(village);
        return village.households.excuseOne(household);
    }

    public int bring(int household, int kind, int loaves)
            throws IndexOutOfBoundsException, IllegalArgumentException, IllegalStateException {
        refuse(village.whyNoBatch(household, kind, loaves));
        undoStack.push(village);
        return village.batches.add(household, kind, loaves);
    }

    public int takeBack(int batch) throws IndexOutOfBoundsException {
        refuse(village.batches.has(batch) ? ALLOWED : NO_SUCH_NUMBER);
        undoStack.push(village);
        return village.batches.remove(batch);
    }

    public int setS(int value) throws IllegalArgumentException {
        refuse(value < 0 ? OUT_OF_RANGE : ALLOWED);
        undoStack.push(village);
        return village.changeS(value);
    }

    // ---- days and claims

    public int bake(int wood) throws IllegalArgumentException, IllegalStateException {
        refuse(village.whyNoDay(wood));
        undoStack.push(village);
        return village.haveDay(wood, plan);
    }

    public int claim(int household) throws IndexOutOfBoundsException {
        refuse(village.whyNoHousehold(household));
        undoStack.push(village);
        return village.letClaim(household);
    }

    public int returnLoaves(int household) throws IndexOutOfBoundsException {
        refuse(village.whyNoHousehold(household));
        undoStack.push(village);
        return village.loaves.moveToShelf(household);
    }

    public int giveAway() {
        undoStack.push(village);
        return village.loaves.emptyShelf();
    }

    // ---- values

    public int household(int household, int what) throws IndexOutOfBoundsException, IllegalArgumentException {
        refuse(village.whyNoHousehold(household));
        refuse(whyNotBelow(what, HOUSEHOLD_VALUES));
        switch (what) {
            case 4:
                return village.loaves.countWith(OWNER, household);
            case 5:
                return village.loaves.countWith(HOLDER, household);
            case 6:
                return village.loaves.countWithBoth(OWNER, household, HOLDER, household);
            case 7:
                return village.batches.countOf(household);
            default:
                return village.households.value(household, what);
        }
    }

    public long due(int household) throws IndexOutOfBoundsException {
        refuse(village.whyNoHousehold(household));
        return village.households.dueOf(household);
    }

    public int nextForWood() {
        return village.households.nextOne();
    }

    public int balance(int household, int kind) throws IndexOutOfBoundsException, IllegalArgumentException {
        refuse(village.whyNoHousehold(household));
        refuse(whyNotBelow(kind, KINDS));
        return village.loaves.balanceOf(household, kind);
    }

    public int batch(int batch, int what) throws IllegalArgumentException {
        refuse(batch < 0 ? OUT_OF_RANGE : whyNotBelow(what, BATCH_VALUES));
        if (!village.batches.has(batch)) {
            return NONE;
        }
        if (what < BATCH_COLUMNS) {
            return village.batches.value(batch, what);
        }
        village.arrangeNextDay(plan);
        return plan.placeOf(batch);
    }

    public int loaf(int loaf, int what) throws IndexOutOfBoundsException, IllegalArgumentException {
        refuse(village.loaves.keeps(loaf) ? ALLOWED : NO_SUCH_NUMBER);
        refuse(whyNotBelow(what, LOAF_COLUMNS));
        return village.loaves.value(loaf, what);
    }

    public int load(int load, int what) throws IllegalArgumentException {
        refuse(load < 0 ? OUT_OF_RANGE : whyNotBelow(what, LOAD_COLUMNS));
        return load < village.loads.size() ? village.loads.value(load, what) : NONE;
    }

    public int whole(int what) throws IllegalArgumentException {
        refuse(whyNotBelow(what, WHOLE_VALUES));
        switch (what) {
            case 0:
                return village.households.size();
            case 1:
                return village.days;
            case 2:
                return village.heat;
            case 3:
                return village.batches.size();
            case 4:
                return village.households.sumOf(WOOD);
            case 5:
                return village.households.sumOf(PUT_IN);
            case 6:
                return village.dough;
            case 7:
                return village.loaves.cameOut();
            case 8:
                return village.loaves.pale();
            case 9:
                return village.loaves.kept();
            case 10:
                return village.loaves.countWith(HOLDER, SHELF);
            case 11:
                return village.loaves.countWithOthers();
            case 12:
                return village.loads.size();
            default:
                return village.s;
        }
    }

    // ---- what if, which changes nothing

    public int doughWith(int wood) throws IllegalArgumentException {
        refuse(whyNotWithin(wood, 1, MAX_WOOD));
        village.arrangeNextDay(plan);
        return doughOfArrangedDay(wood);
    }

    public int bestWood() {
        if (village.batches.size() == 0) {
            return NONE;
        }
        village.arrangeNextDay(plan);
        int best = 1;
        int least = doughOfArrangedDay(1);
        for (int wood = 2; wood <= MAX_WOOD; wood++) {
            int dough = doughOfArrangedDay(wood);
            if (dough < least) {
                least = dough;
                best = wood;
            }
        }
        return best;
    }

    public int likeMarks() {
        return village.households.likePairs();
    }

    public int freeMark(int grooves) throws IllegalArgumentException {
        refuse(whyNotWithin(grooves, 1, GROOVES));
        int mark = (1 << grooves) - 1;
        for (int tries = 0; tries < MAX_MARK && mark <= MAX_MARK; tries++) {
            if (!village.households.hasLike(mark)) {
                return mark;
            }
            mark = nextWithAsMany(mark);
        }
        return NONE;
    }

    // ---- command text, undo and checksum

    public int type(int value) throws IllegalArgumentException, IllegalStateException {
        refuse(whyNotWithin(value, 0, 127));
        refuse(text.isFull() ? NOT_NOW : ALLOWED);
        return text.append(value);
    }

    public int clearCommands() {
        return text.empty();
    }

    public int runCommands() {
        int fault = text.findFault();
        if (fault != NONE) {
            return -10 - fault;
        }
        undoStack.push(village);
        stop = ALLOWED;
        int done = 0;
        text.rewind();
        for (int read = 0; read < CommandText.ROOM && text.readCommand(); read++) {
            stop = carryOut(text.word(), text.number(0), text.number(1), text.number(2));
            if (stop != ALLOWED) {
                return done;
            }
            done++;
        }
        return done;
    }

    public int stop() {
        return stop;
    }

    public int undo() throws IllegalStateException {
        refuse(undoStack.size() == 0 ? NOT_NOW : ALLOWED);
        return undoStack.popInto(village);
    }

    public long digest() {
        long hash = 43087L;
        hash = mix(hash, undoStack.size());
        hash = mix(hash, text.length());
        hash = mix(hash, stop());
        for (int what = 0; what < WHOLE_VALUES; what++) {
            hash = mix(hash, whole(what));
        }
        hash = mixHouseholds(hash);
        hash = mix(hash, nextForWood());
        hash = mixBatches(hash);
        hash = mixLoaves(hash);
        hash = mixLoads(hash);
        return mix(hash, likeMarks());
    }

    // ---- helpers of the face

    private static void refuse(int why) {
        if (why == NO_SUCH_NUMBER) {
            throw new IndexOutOfBoundsException("there is none with this number");
        }
        if (why == OUT_OF_RANGE) {
            throw new IllegalArgumentException("a value is out of its range");
        }
        if (why == NOT_NOW) {
            throw new IllegalStateException("this cannot be done now");
        }
    }

    private static int whyNotWithin(int value, int least, int greatest) {
        return value < least || value > greatest ? OUT_OF_RANGE : ALLOWED;
    }

    private static int whyNotBelow(int value, int end) {
        return whyNotWithin(value, 0, end - 1);
    }

    private int doughOfArrangedDay(int wood) {
        plan.fire(village.batches, village.heatWith(wood));
        return plan.dough(village.batches);
    }

    /** The next greater number that has as many bits set. */
    private static int nextWithAsMany(int mark) {
        int lowest = mark & -mark;
        if (lowest == 0) {
            return MAX_MARK + 1;
        }
        int raised = mark + lowest;
        return raised | (((raised ^ mark) / lowest) >> 2);
    }

    /** Answers why a command cannot be carried out, and does nothing then, or ALLOWED. */
    private int carryOut(Word word, int first, int second, int third) {
        int why = whyNoCommand(word, first, second, third);
        if (word == null || why != ALLOWED) {
            return why;
        }
        switch (word) {
            case JOIN:
                village.households.add(first);
                break;
            case BRING:
                village.batches.add(first, second, third);
                break;
            case BAKE:
                village.haveDay(first, plan);
                break;
            case CLAIM:
                village.letClaim(first);
                break;
            case RETURN:
                village.loaves.moveToShelf(first);
                break;
            case EXCUSE:
                village.households.excuseOne(first);
                break;
            case GIVE:
                village.loaves.emptyShelf();
                break;
            default:
                break;
        }
        return ALLOWED;
    }

    private int whyNoCommand(Word word, int first, int second, int third) {
        if (word == null) {
            return ALLOWED;
        }
        switch (word) {
            case JOIN:
                return village.whyNoJoining(first);
            case BRING:
                return village.whyNoBatch(first, second, third);
            case BAKE:
                return village.whyNoDay(first);
            case CLAIM:
            case RETURN:
            case EXCUSE:
                return village.whyNoHousehold(first);
            default:
                return ALLOWED;
        }
    }

    private static long mix(long hash, long value) {
        return 31L * hash + value;
    }

    private long mixHouseholds(long start) {
        long hash = start;
        for (int household = 0; household < village.households.size(); household++) {
            for (int what = 0; what < HOUSEHOLD_VALUES; what++) {
                hash = mix(hash, household(household, what));
            }
            hash = mix(hash, due(household));
            for (int kind = 0; kind < KINDS; kind++) {
                hash = mix(hash, balance(household, kind));
            }
        }
        return hash;
    }

    private long mixBatches(long start) {
        long hash = start;
        for (int batch = 0; batch < village.batches.size(); batch++) {
            for (int what = 0; what < BATCH_VALUES; what++) {
                hash = mix(hash, batch(batch, what));
            }
        }
        return hash;
    }

    private long mixLoaves(long start) {
        long hash = start;
        for (int loaf = village.loaves.firstKept(); loaf < village.loaves.cameOut(); loaf++) {
            hash = mix(hash, loaf);
            for (int what = 0; what < LOAF_COLUMNS; what++) {
                hash = mix(hash, loaf(loaf, what));
            }
        }
        return hash;
    }

    private long mixLoads(long start) {
        long hash = start;
        for (int load = 0; load < village.loads.size(); load++) {
            for (int what = 0; what < LOAD_COLUMNS; what++) {
                hash = mix(hash, load(load, what));
            }
        }
        return hash;
    }

    /** Rows of numbers; all that is kept of a village in numbers of several stands in such tables. */
    private static final class Table {
        private final int[][] columns;
        private final int room;

        Table(int width, int rows) {
            room = Math.max(0, rows);
            columns = new int[Math.max(0, width)][room];
        }

        int get(int row, int column) {
            if (row < 0 || row >= room || column < 0 || column >= columns.length) {
                return 0;
            }
            return columns[column][row];
        }

        void put(int row, int column, int value) {
            if (row >= 0 && row < room && column >= 0 && column < columns.length) {
                columns[column][row] = value;
            }
        }

        /** How many of the first rows have a value in a column. */
        int count(int rows, int column, int value) {
            return countBoth(rows, column, value, column, value);
        }

        /** How many of the first rows have one value in a column and another one in another column. */
        int countBoth(int rows, int column, int value, int otherColumn, int otherValue) {
            if (column < 0 || column >= columns.length || otherColumn < 0 || otherColumn >= columns.length) {
                return 0;
            }
            int[] values = columns[column];
            int[] otherValues = columns[otherColumn];
            int found = 0;
            for (int row = 0; row < rows && row < room; row++) {
                if (values[row] == value && otherValues[row] == otherValue) {
                    found++;
                }
            }
            return found;
        }

        int sum(int rows, int column) {
            if (column < 0 || column >= columns.length) {
                return 0;
            }
            int[] values = columns[column];
            int sum = 0;
            for (int row = 0; row < rows && row < room; row++) {
                sum += values[row];
            }
            return sum;
        }

        /** Takes one of the first rows out; those behind it move up. */
        void remove(int row, int rows) {
            if (row < 0 || row >= rows || rows > room) {
                return;
            }
            for (int column = 0; column < columns.length; column++) {
                System.arraycopy(columns[column], row + 1, columns[column], row, rows - row - 1);
            }
        }

        /** Takes over the first rows of a table of the same size. */
        void copyFrom(Table other, int rows) {
            if (rows < 0 || rows > room || rows > other.room || columns.length != other.columns.length) {
                return;
            }
            for (int column = 0; column < columns.length; column++) {
                System.arraycopy(other.columns[column], 0, columns[column], 0, rows);
            }
        }
    }

    /** The households with their marks, their wood and the loaves that they have put in. */
    private static final class Households {
        private final Table rows = new Table(HOUSEHOLD_COLUMNS, MAX_HOUSEHOLDS);
        private int count;

        void copyFrom(Households other) {
            rows.copyFrom(other.rows, other.count);
            count = other.count;
        }

        int size() {
            return count;
        }

        boolean has(int household) {
            return household >= 0 && household < count;
        }

        boolean isFull() {
            return count == MAX_HOUSEHOLDS;
        }

        int value(int household, int column) {
            return rows.get(household, column);
        }

        int sumOf(int column) {
            return rows.sum(count, column);
        }

        /** The household with a mark, or NONE. */
        int withMark(int mark) {
            for (int household = 0; household < count; household++) {
                if (rows.get(household, MARK) == mark) {
                    return household;
                }
            }
            return NONE;
        }

        int add(int mark) {
            int household = count;
            rows.put(household, MARK, mark);
            rows.put(household, WOOD, 0);
            rows.put(household, PUT_IN, 0);
            rows.put(household, EXCUSED, 0);
            count++;
            return household;
        }

        int changeMark(int household, int mark) {
            int previous = rows.get(household, MARK);
            rows.put(household, MARK, mark);
            return previous;
        }

        int excuseOne(int household) {
            rows.put(household, EXCUSED, 1);
            return rows.count(count, EXCUSED, 1);
        }

        void putIn(int household, int loaves) {
            rows.put(household, PUT_IN, rows.get(household, PUT_IN) + loaves);
        }

        /** The next one brings wood, with which all excuses are over. */
        void bringWood(int wood) {
            int bringer = nextOne();
            rows.put(bringer, WOOD, rows.get(bringer, WOOD) + wood);
            for (int household = 0; household < count; household++) {
                rows.put(household, EXCUSED, 0);
            }
        }

        long dueOf(int household) {
            long wood = rows.sum(count, WOOD);
            long loaves = rows.sum(count, PUT_IN);
            return wood * rows.get(household, PUT_IN) - loaves * rows.get(household, WOOD);
        }

        /** The next one to bring wood, or NONE. */
        int nextOne() {
            boolean allExcused = rows.count(count, EXCUSED, 1) == count;
            int next = NONE;
            long greatest = 0;
            for (int household = 0; household < count; household++) {
                if (allExcused || rows.get(household, EXCUSED) == 0) {
                    long due = dueOf(household);
                    if (next == NONE || due > greatest) {
                        next = household;
                        greatest = due;
                    }
                }
            }
            return next;
        }

        /** To whom a loaf with a print goes, of the households whose bits are set in bakers. */
        int takerOf(int print, int bakers) {
            int taker = SHELF;
            int least = GROOVES + 1;
            for (int household = 0; household < count; household++) {
                int mark = rows.get(household, MARK);
                if ((bakers >> household & 1) == 1 && contains(mark, print)) {
                    int distance = Integer.bitCount(mark & ~print);
                    if (distance < least) {
                        least = distance;
                        taker = household;
                    } else if (distance == least) {
                        taker = SHELF;
                    }
                }
            }
            return taker;
        }

        int likePairs() {
            int pairs = 0;
            for (int one = 0; one < count; one++) {
                for (int other = one + 1; other < count; other++) {
                    if (alike(rows.get(one, MARK), rows.get(other, MARK))) {
                        pairs++;
                    }
                }
            }
            return pairs;
        }

        boolean hasLike(int mark) {
            for (int household = 0; household < count; household++) {
                if (alike(mark, rows.get(household, MARK))) {
                    return true;
                }
            }
            return false;
        }

        private static boolean alike(int mark, int other) {
            return contains(mark, other) || contains(other, mark);
        }
    }

    private static boolean contains(int mark, int grooves) {
        return (grooves & ~mark) == 0;
    }

    /** The batches that wait for the next day. */
    private static final class Batches {
        private final Table rows = new Table(BATCH_COLUMNS, MAX_BATCHES);
        private int count;

        void copyFrom(Batches other) {
            rows.copyFrom(other.rows, other.count);
            count = other.count;
        }

        int size() {
            return count;
        }

        boolean has(int batch) {
            return batch >= 0 && batch < count;
        }

        boolean isFull() {
            return count == MAX_BATCHES;
        }

        int value(int batch, int column) {
            return rows.get(batch, column);
        }

        int countOf(int household) {
            return rows.count(count, BATCH_HOUSEHOLD, household);
        }

        int add(int household, int kind, int loaves) {
            int batch = count;
            rows.put(batch, BATCH_HOUSEHOLD, household);
            rows.put(batch, BATCH_KIND, kind);
            rows.put(batch, BATCH_LOAVES, loaves);
            count++;
            return batch;
        }

        int remove(int batch) {
            int loaves = rows.get(batch, BATCH_LOAVES);
            rows.remove(batch, count);
            count--;
            return loaves;
        }

        void clear() {
            count = 0;
        }
    }

    /** The loads of a day. */
    private static final class Loads {
        private final Table rows = new Table(LOAD_COLUMNS, MAX_BATCHES);
        private int count;

        void copyFrom(Loads other) {
            rows.copyFrom(other.rows, other.count);
            count = other.count;
        }

        int size() {
            return count;
        }

        int value(int load, int column) {
            return rows.get(load, column);
        }

        void clear() {
            count = 0;
        }

        void add(int kind, int batches, int loaves, int heatIn, int heatOut) {
            rows.put(count, LOAD_KIND, kind);
            rows.put(count, LOAD_BATCHES, batches);
            rows.put(count, LOAD_LOAVES, loaves);
            rows.put(count, LOAD_HEAT_IN, heatIn);
            rows.put(count, LOAD_HEAT_OUT, heatOut);
            count++;
        }
    }

    /** The kept loaves; each stands in the row of its number modulo the room, so that new ones replace the oldest. */
    private static final class Loaves {
        private static final int ROOM = 200;

        private final Table rows = new Table(LOAF_COLUMNS, ROOM);
        private int cameOut;
        private int pale;

        void copyFrom(Loaves other) {
            rows.copyFrom(other.rows, other.kept());
            cameOut = other.cameOut;
            pale = other.pale;
        }

        int cameOut() {
            return cameOut;
        }

        int pale() {
            return pale;
        }

        int kept() {
            return Math.min(cameOut, ROOM);
        }

        int firstKept() {
            return cameOut - kept();
        }

        boolean keeps(int loaf) {
            return loaf >= firstKept() && loaf < cameOut;
        }

        int value(int loaf, int column) {
            return rows.get(loaf % ROOM, column);
        }

        private void give(int loaf, int holder) {
            rows.put(loaf % ROOM, HOLDER, holder);
        }

        /** Adds a loaf that nobody holds until it is sorted. */
        void add(int owner, int kind, int day, boolean isPale, int mark, int print) {
            int row = cameOut % ROOM;
            rows.put(row, OWNER, owner);
            rows.put(row, LOAF_KIND, kind);
            rows.put(row, DAY, day);
            rows.put(row, PALE, isPale ? 1 : 0);
            rows.put(row, PRINT, print);
            rows.put(row, HOLDER, NONE);
            rows.put(row, LOST_GROOVES, Integer.bitCount(mark & ~print));
            cameOut++;
            if (isPale) {
                pale++;
            }
        }

        /** Sorts the loaves from a number on. */
        void sortFrom(int start, Households households, int bakers) {
            for (int loaf = Math.max(start, firstKept()); loaf < cameOut; loaf++) {
                give(loaf, households.takerOf(value(loaf, PRINT), bakers));
            }
        }

        int countWith(int column, int value) {
            return rows.count(kept(), column, value);
        }

        int countWithBoth(int column, int value, int otherColumn, int otherValue) {
            return rows.countBoth(kept(), column, value, otherColumn, otherValue);
        }

        int countWithOthers() {
            int found = 0;
            for (int row = 0; row < kept(); row++) {
                int holder = rows.get(row, HOLDER);
                if (holder != NONE && holder != SHELF && holder != rows.get(row, OWNER)) {
                    found++;
                }
            }
            return found;
        }

        int balanceOf(int household, int kind) {
            return countWithBoth(LOAF_KIND, kind, OWNER, household)
                    - countWithBoth(LOAF_KIND, kind, HOLDER, household);
        }

        /** Gives a household what it lacks from the shelf, as far as its mark has the prints. */
        int moveFromShelf(int household, int mark) {
            int moved = 0;
            for (int kind = 0; kind < KINDS; kind++) {
                int balance = balanceOf(household, kind);
                for (int loaf = firstKept(); loaf < cameOut && balance > 0; loaf++) {
                    if (value(loaf, LOAF_KIND) == kind && value(loaf, HOLDER) == SHELF
                            && contains(mark, value(loaf, PRINT))) {
                        give(loaf, household);
                        balance--;
                        moved++;
                    }
                }
            }
            return moved;
        }

        /** Puts onto the shelf what a household has too much, the latest first. */
        int moveToShelf(int household) {
            int moved = 0;
            for (int kind = 0; kind < KINDS; kind++) {
                int balance = balanceOf(household, kind);
                for (int loaf = cameOut - 1; loaf >= firstKept() && balance < 0; loaf--) {
                    if (value(loaf, LOAF_KIND) == kind && value(loaf, HOLDER) == household
                            && value(loaf, OWNER) != household) {
                        give(loaf, SHELF);
                        balance++;
                        moved++;
                    }
                }
            }
            return moved;
        }

        int emptyShelf() {
            int moved = 0;
            for (int row = 0; row < kept(); row++) {
                if (rows.get(row, HOLDER) == SHELF) {
                    rows.put(row, HOLDER, NONE);
                    moved++;
                }
            }
            return moved;
        }
    }

    /** Which batches would go into which loads; a what-if question needs no more of a day than this. */
    private static final class DayPlan {
        private static final int ROOM = 24;
        private static final int EMPTY_OVEN_FALL = 5;
        // Kinds stand by falling lowest heat, so the first one that fits is the one that is baked.
        private static final int[] LOWEST = {260, 180, 90};
        private static final int[] GREATEST = {400, 300, 200};
        private static final int[] TICKS = {2, 5, 8};
        // Far more than the loads of all batches and the ticks of an oven that cools from its greatest heat.
        private static final int MAX_STEPS = 1000;

        private final int[] order = new int[MAX_BATCHES];
        private final int[] loadAt = new int[MAX_BATCHES];
        private final int[] waiting = new int[KINDS];
        private final Loads loads = new Loads();
        private int count;
        private int left;
        private int heat;

        static int paleBelow(int kind) {
            return kind >= 0 && kind < KINDS ? LOWEST[kind] - 30 : 0;
        }

        /** Puts the batches in their baking order, which begins with those of the household first. */
        void arrange(Batches batches, int households, int first) {
            count = 0;
            for (int turn = 0; turn < households; turn++) {
                int household = first + turn < households ? first + turn : first + turn - households;
                for (int batch = 0; batch < batches.size() && count < MAX_BATCHES; batch++) {
                    if (batches.value(batch, BATCH_HOUSEHOLD) == household) {
                        order[count] = batch;
                        count++;
                    }
                }
            }
        }

        /** Plans the loads of the arranged batches in an oven with some heat. */
        void fire(Batches batches, int start) {
            heat = start;
            startWaiting(batches);
            for (int step = 0; step < MAX_STEPS && left > 0; step++) {
                int kind = kindForHeat();
                if (kind != NONE) {
                    bakeLoad(batches, kind);
                } else if (isTooHotForSome()) {
                    heat = Math.max(COLD, heat - EMPTY_OVEN_FALL);
                } else {
                    return;
                }
            }
        }

        private void startWaiting(Batches batches) {
            loads.clear();
            left = count;
            for (int kind = 0; kind < KINDS; kind++) {
                waiting[kind] = 0;
            }
            for (int place = 0; place < count && place < MAX_BATCHES; place++) {
                loadAt[place] = NONE;
                int kind = batches.value(order[place], BATCH_KIND);
                if (kind >= 0 && kind < KINDS) {
                    waiting[kind]++;
                }
            }
        }

        private int kindForHeat() {
            for (int kind = 0; kind < KINDS; kind++) {
                if (waiting[kind] > 0 && heat >= LOWEST[kind] && heat <= GREATEST[kind]) {
                    return kind;
                }
            }
            return NONE;
        }

        private boolean isTooHotForSome() {
            for (int kind = 0; kind < KINDS; kind++) {
                if (waiting[kind] > 0 && heat > GREATEST[kind]) {
                    return true;
                }
            }
            return false;
        }

        private void bakeLoad(Batches batches, int kind) {
            if (kind < 0 || kind >= KINDS) {
                return;
            }
            int heatIn = heat;
            int loaves = 0;
            int goneIn = 0;
            for (int place = 0; place < count && place < MAX_BATCHES; place++) {
                int batch = order[place];
                int size = batches.value(batch, BATCH_LOAVES);
                if (loadAt[place] == NONE && batches.value(batch, BATCH_KIND) == kind && loaves + size <= ROOM) {
                    loadAt[place] = loads.size();
                    loaves += size;
                    goneIn++;
                }
            }
            left -= goneIn;
            waiting[kind] -= goneIn;
            heat = Math.max(COLD, heat - TICKS[kind] * (5 + loaves / 8));
            loads.add(kind, goneIn, loaves, heatIn, heat);
        }

        int size() {
            return count;
        }

        Loads loads() {
            return loads;
        }

        int heat() {
            return heat;
        }

        int batchAt(int place) {
            return place >= 0 && place < count && place < MAX_BATCHES ? order[place] : NONE;
        }

        /** The load of the batch at a place, or NONE if it becomes dough. */
        int loadAt(int place) {
            return place >= 0 && place < count && place < MAX_BATCHES ? loadAt[place] : NONE;
        }

        int placeOf(int batch) {
            for (int place = 0; place < count; place++) {
                if (batchAt(place) == batch) {
                    return place;
                }
            }
            return NONE;
        }

        /** The loaves of the batches that go into no load. */
        int dough(Batches batches) {
            int dough = 0;
            for (int place = 0; place < count; place++) {
                if (loadAt(place) == NONE) {
                    dough += batches.value(batchAt(place), BATCH_LOAVES);
                }
            }
            return dough;
        }
    }

    /** All that an undo brings back. */
    private static final class Village {
        private static final int MAX_HEAT = 400;
        private static final int HEAT_OF_WOOD = 10;
        private static final long DRAW_FACTOR = 1103515245L;
        private static final long DRAW_STEP = 12345L;
        private static final long DRAW_MASK = 2147483647L;

        private final Households households = new Households();
        private final Batches batches = new Batches();
        private final Loads loads = new Loads();
        private final Loaves loaves = new Loaves();
        private int heat = COLD;
        private int s = 1;
        private int days;
        private int dough;

        void copyFrom(Village other) {
            households.copyFrom(other.households);
            batches.copyFrom(other.batches);
            loads.copyFrom(other.loads);
            loaves.copyFrom(other.loaves);
            heat = other.heat;
            s = other.s;
            days = other.days;
            dough = other.dough;
        }

        int whyNoHousehold(int household) {
            return households.has(household) ? ALLOWED : NO_SUCH_NUMBER;
        }

        int whyNoJoining(int mark) {
            if (whyNotWithin(mark, 1, MAX_MARK) != ALLOWED) {
                return OUT_OF_RANGE;
            }
            return households.isFull() || households.withMark(mark) != NONE ? NOT_NOW : ALLOWED;
        }

        int whyNoOtherMark(int household, int mark) {
            if (!households.has(household)) {
                return NO_SUCH_NUMBER;
            }
            if (whyNotWithin(mark, 1, MAX_MARK) != ALLOWED) {
                return OUT_OF_RANGE;
            }
            int bearer = households.withMark(mark);
            return bearer != NONE && bearer != household ? NOT_NOW : ALLOWED;
        }

        int whyNoBatch(int household, int kind, int size) {
            if (!households.has(household)) {
                return NO_SUCH_NUMBER;
            }
            if (whyNotBelow(kind, KINDS) != ALLOWED || whyNotWithin(size, 1, MAX_BATCH_LOAVES) != ALLOWED) {
                return OUT_OF_RANGE;
            }
            return batches.isFull() ? NOT_NOW : ALLOWED;
        }

        int whyNoDay(int wood) {
            if (whyNotWithin(wood, 1, MAX_WOOD) != ALLOWED) {
                return OUT_OF_RANGE;
            }
            return batches.size() == 0 ? NOT_NOW : ALLOWED;
        }

        int changeS(int value) {
            int previous = s;
            s = value;
            return previous;
        }

        int letClaim(int household) {
            return loaves.moveFromShelf(household, households.value(household, MARK));
        }

        int heatWith(int wood) {
            return Math.min(MAX_HEAT, heat + HEAT_OF_WOOD * wood);
        }

        void arrangeNextDay(DayPlan plan) {
            plan.arrange(batches, households.size(), households.nextOne());
        }

        /** Has a day, and answers how many loaves came out. */
        int haveDay(int wood, DayPlan plan) {
            int before = loaves.cameOut();
            arrangeNextDay(plan);
            households.bringWood(wood);
            plan.fire(batches, heatWith(wood));
            loads.copyFrom(plan.loads());
            int bakers = bakeLoads(plan);
            loaves.sortFrom(before, households, bakers);
            dough += plan.dough(batches);
            heat = Math.max(COLD, plan.heat() / 2);
            batches.clear();
            days++;
            return loaves.cameOut() - before;
        }

        /** Bakes the planned loads, and answers a bit mask of the households that had a batch in them. */
        private int bakeLoads(DayPlan plan) {
            int bakers = 0;
            for (int load = 0; load < loads.size(); load++) {
                for (int place = 0; place < plan.size(); place++) {
                    if (plan.loadAt(place) == load) {
                        int batch = plan.batchAt(place);
                        bakeBatch(batch, loads.value(load, LOAD_HEAT_OUT));
                        bakers |= 1 << batches.value(batch, BATCH_HOUSEHOLD);
                    }
                }
            }
            return bakers;
        }

        private void bakeBatch(int batch, int heatOut) {
            int owner = batches.value(batch, BATCH_HOUSEHOLD);
            int kind = batches.value(batch, BATCH_KIND);
            int size = batches.value(batch, BATCH_LOAVES);
            int mark = households.value(owner, MARK);
            boolean isPale = heatOut < DayPlan.paleBelow(kind);
            households.putIn(owner, size);
            for (int loaf = 0; loaf < size; loaf++) {
                loaves.add(owner, kind, days, isPale, mark, blur(mark));
            }
        }

        private int blur(int mark) {
            int print = mark;
            int losses = draw(4);
            for (int loss = 0; loss < losses; loss++) {
                print &= ~(1 << draw(GROOVES));
            }
            return print;
        }

        private int draw(int below) {
            s = (int) ((DRAW_FACTOR * s + DRAW_STEP) & DRAW_MASK);
            return below > 0 ? (s >> 16) % below : 0;
        }
    }

    /** The latest saved villages; the rows are made once, and a new state takes the place of the oldest. */
    private static final class UndoStack {
        private static final int ROOM = 4;

        private final Village[] states = new Village[ROOM];
        private int latest;
        private int count;

        UndoStack() {
            for (int place = 0; place < ROOM; place++) {
                states[place] = new Village();
            }
        }

        int size() {
            return count;
        }

        void push(Village state) {
            latest = latest + 1 < ROOM ? latest + 1 : 0;
            Village saved = stateAt(latest);
            if (saved != null) {
                saved.copyFrom(state);
                count = Math.min(ROOM, count + 1);
            }
        }

        /** Restores the latest state, and answers how many are left. */
        int popInto(Village state) {
            Village saved = stateAt(latest);
            if (saved != null && count > 0) {
                state.copyFrom(saved);
                latest = latest > 0 ? latest - 1 : ROOM - 1;
                count--;
            }
            return count;
        }

        private Village stateAt(int place) {
            return place >= 0 && place < ROOM ? states[place] : null;
        }
    }

    /** The words of the commands, with how many numbers follow each. */
    private enum Word {
        JOIN("join", 1),
        BRING("bring", 3),
        BAKE("bake", 1),
        CLAIM("claim", 1),
        RETURN("return", 1),
        EXCUSE("excuse", 1),
        GIVE("give", 0);

        private final String letters;
        private final int numbers;

        Word(String letters, int numbers) {
            this.letters = letters;
            this.numbers = numbers;
        }
    }

    /** The command text, read command by command. */
    private static final class CommandText {
        private static final int ROOM = 150;
        private static final int MAX_NUMBERS = 3;
        private static final int MAX_DIGITS = 5;
        private static final Word[] WORDS = Word.values();

        private final byte[] bytes = new byte[ROOM];
        private final int[] numbers = new int[MAX_NUMBERS];
        private Word word;
        private int length;
        private int position;
        private int fault = NONE;

        int length() {
            return length;
        }

        boolean isFull() {
            return length >= ROOM;
        }

        int append(int value) {
            if (!isFull()) {
                bytes[length] = (byte) value;
                length++;
            }
            return length;
        }

        int empty() {
            int before = length;
            length = 0;
            return before;
        }

        Word word() {
            return word;
        }

        int number(int index) {
            return index >= 0 && index < MAX_NUMBERS ? numbers[index] : 0;
        }

        void rewind() {
            position = 0;
            fault = NONE;
        }

        /** The index of the first byte that cannot stand at its place, or NONE. */
        int findFault() {
            rewind();
            int read = 0;
            while (read < ROOM && readCommand()) {
                read++;
            }
            return fault;
        }

        /** Reads the next command; answers false if there is none, or none without a fault. */
        boolean readCommand() {
            skipSpaces();
            if (position >= length) {
                return false;
            }
            if (!readWord() || !readNumbers()) {
                return false;
            }
            skipSpaces();
            if (!stands(';')) {
                return failAt(position);
            }
            position++;
            return true;
        }

        private boolean failAt(int place) {
            fault = place;
            return false;
        }

        /** The byte at the position, or NONE at the end. */
        private int here() {
            return position >= 0 && position < length && position < ROOM ? bytes[position] : NONE;
        }

        private boolean stands(char sign) {
            return here() == sign;
        }

        private boolean standsDigit() {
            return here() >= '0' && here() <= '9';
        }

        private void skipSpaces() {
            while (position < length && stands(' ')) {
                position++;
            }
        }

        private boolean readWord() {
            int start = position;
            while (position < length && here() >= 'a' && here() <= 'z') {
                position++;
            }
            word = wordBetween(start, position);
            return word != null || failAt(start);
        }

        private Word wordBetween(int start, int end) {
            for (int index = 0; index < WORDS.length; index++) {
                Word candidate = WORDS[index];
                if (candidate != null && isBetween(candidate.letters, start, end)) {
                    return candidate;
                }
            }
            return null;
        }

        private boolean isBetween(String letters, int start, int end) {
            if (start < 0 || end > ROOM || end - start != letters.length()) {
                return false;
            }
            for (int index = 0; index < letters.length(); index++) {
                if (letters.charAt(index) != bytes[start + index]) {
                    return false;
                }
            }
            return true;
        }

        private boolean readNumbers() {
            int wanted = word == null ? 0 : word.numbers;
            for (int index = 0; index < wanted && index < MAX_NUMBERS; index++) {
                if (!stands(' ')) {
                    return failAt(position);
                }
                skipSpaces();
                if (!standsDigit()) {
                    return failAt(position);
                }
                numbers[index] = readDigits();
                if (standsDigit()) {
                    return failAt(position);
                }
            }
            return true;
        }

        private int readDigits() {
            int number = 0;
            for (int digit = 0; digit < MAX_DIGITS && standsDigit(); digit++) {
                number = 10 * number + here() - '0';
                position++;
            }
            return number;
        }
    }
}

import java.util.NoSuchElementException;

/** A simulator of fair division. The promises of DOC.md say what each call of the face does. */
public final class CakeDivision {
    public static final int NONE = -1;

    private static final int MAX_TEXT = 600;
    private static final int MAX_CELLS = 24;
    private static final int MAX_SIBLINGS = 6;
    private static final int MAX_NAME = 6;
    private static final int MAX_VALUE = 9;
    private static final int MAX_PARTS = 24;
    private static final int MAX_COMMANDS = 30;
    private static final int MAX_UNDO = 6;
    private static final int SLOTS = 2;
    private static final int BYTES_PER_APPEND = 20;
    private static final String FIRST_SETUP =
        "cake 8;sibling ann 1 2 3 4 4 3 2 1;sibling bob 9 0 0 0 0 0 0 9;sibling cid 1 1 1 1 1 1 1 1;";

    private final Text input = new Text();
    private final Text output = new Text();
    private final Cake cake = new Cake();
    private final Cake draft = new Cake();
    private final Parser parser = new Parser(input);
    private final Fairness fairness = new Fairness(cake);
    private final Procedures procedures = new Procedures(cake);
    private final ContiguousDivisions divisions = new ContiguousDivisions(cake);
    private final Script script = new Script(cake, fairness, procedures);
    private final Memory memory = new Memory();

    public CakeDivision() {
        input.addLetters(FIRST_SETUP);
        adoptSetup();
    }

    // ---- input

    public int append(int a, int b, int c, int d, int e) throws IllegalStateException {
        if (input.length + BYTES_PER_APPEND > MAX_TEXT) {
            throw new IllegalStateException("the input buffer is full");
        }
        input.addFourBytes(a);
        input.addFourBytes(b);
        input.addFourBytes(c);
        input.addFourBytes(d);
        input.addFourBytes(e);
        return input.length;
    }

    public int truncate(int length) throws IllegalArgumentException {
        if (length < 0 || length > input.length) {
            throw new IllegalArgumentException("the input buffer has no such length");
        }
        input.length = length;
        return length;
    }

    public int load() throws IllegalArgumentException {
        if (!adoptSetup()) {
            throw new IllegalArgumentException("the setup text has an error");
        }
        return cake.siblings;
    }

    public int errorCode() {
        return parser.foundCode;
    }

    public int errorPosition() {
        return parser.foundPosition;
    }

    // ---- cake and shares

    public int cellCount() {
        return cake.cells;
    }

    public int siblingCount() {
        return cake.siblings;
    }

    public int nameByte(int sibling, int index) throws IndexOutOfBoundsException {
        requireSibling(sibling);
        if (index < 0 || index >= cake.nameLengths[sibling]) {
            throw new IndexOutOfBoundsException("the name has no such letter");
        }
        return cake.names[sibling * MAX_NAME + index];
    }

    public int findSibling() throws NoSuchElementException {
        int sibling = cake.findName(input, 0, input.length);
        if (sibling == NONE) {
            throw new NoSuchElementException("no sibling has this name");
        }
        return sibling;
    }

    public int value(int sibling, int cell) throws IndexOutOfBoundsException {
        requireSibling(sibling);
        requireCell(cell);
        return cake.valueOf(sibling, cell);
    }

    public int owner(int cell) throws IndexOutOfBoundsException {
        requireCell(cell);
        return cake.owners[cell];
    }

    public int worth(int sibling, int from, int to) throws IndexOutOfBoundsException, IllegalArgumentException {
        requireSibling(sibling);
        requireRun(from, to);
        return cake.worthOfRun(sibling, from, to + 1);
    }

    public int total(int sibling) throws IndexOutOfBoundsException {
        requireSibling(sibling);
        return cake.worthOfAll(sibling);
    }

    public int worthOfShare(int sibling, int other) throws IndexOutOfBoundsException {
        requireSibling(sibling);
        requireSibling(other);
        return cake.worthOfOwned(cake.owners, sibling, other);
    }

    public int shareSize(int sibling) throws IndexOutOfBoundsException {
        requireSibling(sibling);
        return cake.countOwned(sibling);
    }

    public int pieceCount(int sibling) throws IndexOutOfBoundsException {
        requireSibling(sibling);
        return cake.countPieces(sibling);
    }

    public int freeCount() {
        return cake.countOwned(NONE);
    }

    public int mark(int sibling, int cell, int parts) throws IndexOutOfBoundsException, IllegalArgumentException {
        requireSibling(sibling);
        requireCell(cell);
        if (parts < 1 || parts > MAX_PARTS) {
            throw new IllegalArgumentException("the number of parts is out of range");
        }
        return procedures.markOf(sibling, cell, parts);
    }

    public int favouriteFreeCell(int sibling) throws IndexOutOfBoundsException {
        requireSibling(sibling);
        return procedures.favouriteOf(cake.owners, sibling);
    }

    // ---- fairness

    public boolean envies(int sibling, int other) throws IndexOutOfBoundsException {
        requireSibling(sibling);
        requireSibling(other);
        return fairness.hasEnvy(sibling, other);
    }

    public boolean isMild(int sibling, int other) throws IndexOutOfBoundsException, IllegalStateException {
        requireSibling(sibling);
        requireSibling(other);
        if (!fairness.hasEnvy(sibling, other)) {
            throw new IllegalStateException("the sibling does not envy the other one");
        }
        return !fairness.hasStrongEnvy(sibling, other);
    }

    public int envyCount() {
        return fairness.countEnvies();
    }

    public int strongEnvyCount() {
        return fairness.countStrongEnvies();
    }

    public int mostEnvied() {
        return fairness.findMostEnvied();
    }

    public boolean isSatisfied(int sibling) throws IndexOutOfBoundsException {
        requireSibling(sibling);
        return fairness.hasFairShare(sibling);
    }

    public int satisfiedCount() {
        return fairness.countFairShares();
    }

    public int envyCycleLength(int sibling) throws IndexOutOfBoundsException {
        requireSibling(sibling);
        return fairness.findCycle(sibling);
    }

    public int envyCycleMember(int sibling, int position) throws IndexOutOfBoundsException, NoSuchElementException {
        requireSibling(sibling);
        if (position < 0 || position >= fairness.findCycle(sibling)) {
            throw new NoSuchElementException("there is no such member of an envy cycle");
        }
        return fairness.cycle[position];
    }

    public boolean wouldSwap(int sibling, int other) throws IndexOutOfBoundsException {
        requireSibling(sibling);
        requireSibling(other);
        return fairness.hasEnvy(sibling, other) && fairness.hasEnvy(other, sibling);
    }

    // ---- welfare

    public int totalWelfare() {
        int sum = 0;
        for (int sibling = 0; sibling < cake.siblings; sibling++) {
            sum += cake.welfareOf(sibling);
        }
        return sum;
    }

    public int leastWelfare() {
        return cake.leastWelfareAmong(cake.owners);
    }

    public long welfareProduct() {
        long product = 1;
        for (int sibling = 0; sibling < cake.siblings; sibling++) {
            product *= cake.welfareOf(sibling);
        }
        return product;
    }

    public int greatestTotalWelfare() {
        int sum = 0;
        for (int cell = 0; cell < cake.cells; cell++) {
            sum += cake.greatestValueOf(cell);
        }
        return sum;
    }

    public int greatestContiguousWelfare() {
        return divisions.findGreatestSum();
    }

    public int bestLeastWelfare() {
        return divisions.findGreatestLeast();
    }

    public int cutCount() {
        int cuts = 0;
        for (int cell = 0; cell < cake.cells - 1; cell++) {
            if (cake.endsPiece(cell)) {
                cuts++;
            }
        }
        return cuts;
    }

    public float satisfaction(int sibling) throws IndexOutOfBoundsException {
        requireSibling(sibling);
        int whole = cake.worthOfAll(sibling);
        if (whole == 0) {
            return 0.0f;
        }
        return (float) cake.welfareOf(sibling) / (float) whole;
    }

    public double meanPieces() {
        int pieces = 0;
        for (int sibling = 0; sibling < cake.siblings; sibling++) {
            pieces += cake.countPieces(sibling);
        }
        return (double) pieces / (double) cake.siblings;
    }

    public int inconsistencies() {
        int difference = cake.cells - cake.countOwned(NONE);
        for (int sibling = 0; sibling < cake.siblings; sibling++) {
            difference -= cake.countOwned(sibling);
            if (fairness.hasEnvy(sibling, sibling)) {
                difference++;
            }
        }
        return difference;
    }

    // ---- what would be (nothing changes)

    public int cutFor(int sibling) throws IndexOutOfBoundsException {
        requireSibling(sibling);
        return procedures.cutOf(sibling);
    }

    public int welfareByKnife(int sibling) throws IndexOutOfBoundsException {
        requireSibling(sibling);
        return procedures.tryKnife(sibling);
    }

    public int welfareByRobin(int sibling, int first) throws IndexOutOfBoundsException {
        requireSibling(sibling);
        requireSibling(first);
        return procedures.tryRobin(sibling, first);
    }

    public int bestFirst() {
        return procedures.findBestFirst();
    }

    // ---- changes

    public int give(int sibling, int from, int to) throws IndexOutOfBoundsException, IllegalArgumentException {
        requireSibling(sibling);
        requireRun(from, to);
        memory.rememberForUndo(cake);
        cake.assign(cake.owners, sibling, from, to + 1);
        return cake.welfareOf(sibling);
    }

    public int release(int from, int to) throws IllegalArgumentException {
        requireRun(from, to);
        memory.rememberForUndo(cake);
        cake.assign(cake.owners, NONE, from, to + 1);
        return cake.countOwned(NONE);
    }

    public int swapShares(int sibling, int other) throws IndexOutOfBoundsException, IllegalStateException {
        requireSibling(sibling);
        requireSibling(other);
        requireDifferent(sibling, other);
        memory.rememberForUndo(cake);
        cake.exchangeShares(sibling, other);
        return fairness.countEnvies();
    }

    public int setValue(int sibling, int cell, int value) throws IndexOutOfBoundsException, IllegalArgumentException {
        requireSibling(sibling);
        requireCell(cell);
        if (value < 0 || value > MAX_VALUE) {
            throw new IllegalArgumentException("the value is out of range");
        }
        memory.rememberForUndo(cake);
        int previous = cake.valueOf(sibling, cell);
        cake.putValue(sibling, cell, value);
        return previous;
    }

    public int divideAndChoose(int cutter, int chooser) throws IndexOutOfBoundsException, IllegalStateException {
        requireSibling(cutter);
        requireSibling(chooser);
        requireDifferent(cutter, chooser);
        memory.rememberForUndo(cake);
        return procedures.cutAndChoose(cutter, chooser);
    }

    public int movingKnife() {
        memory.rememberForUndo(cake);
        procedures.divideByKnife(cake.owners);
        return fairness.countFairShares();
    }

    public int roundRobin(int first) throws IndexOutOfBoundsException {
        requireSibling(first);
        memory.rememberForUndo(cake);
        return procedures.divideByRobin(cake.owners, first);
    }

    public int rotate(int sibling) throws IndexOutOfBoundsException, IllegalStateException {
        requireSibling(sibling);
        if (fairness.findCycle(sibling) == NONE) {
            throw new IllegalStateException("no envy cycle contains the sibling");
        }
        memory.rememberForUndo(cake);
        return fairness.rotateThrough(sibling);
    }

    public int runScript() throws IllegalArgumentException {
        boolean valid = parser.readScript(script, cake);
        input.length = 0;
        if (!valid) {
            throw new IllegalArgumentException("the script has an error");
        }
        memory.rememberForUndo(cake);
        return script.execute();
    }

    // ---- undo, saved states, output

    public int undo() throws IllegalStateException {
        if (memory.undoable == 0) {
            throw new IllegalStateException("there is no change to undo");
        }
        memory.undoLatest(cake);
        return memory.undoable;
    }

    public int save(int slot) throws IndexOutOfBoundsException {
        requireSlot(slot);
        memory.saveTo(slot, cake);
        return cake.countOwned(NONE);
    }

    public int restore(int slot) throws IndexOutOfBoundsException, IllegalStateException {
        requireSlot(slot);
        if (!memory.saved[slot]) {
            throw new IllegalStateException("nothing is saved in the slot");
        }
        memory.restoreFrom(slot, cake);
        return cake.countOwned(NONE);
    }

    public int writeOwners() {
        output.length = 0;
        int from = 0;
        for (int cell = 0; cell < cake.cells; cell++) {
            if (cake.endsPiece(cell)) {
                writePiece(from, cell + 1);
                from = cell + 1;
            }
        }
        return output.length;
    }

    public int outputByte(int index) throws IndexOutOfBoundsException {
        if (index < 0 || index >= output.length) {
            throw new IndexOutOfBoundsException("the output text has no such byte");
        }
        return output.bytes[index];
    }

    // ---- helpers of the face

    private void requireSibling(int sibling) {
        if (!cake.hasSibling(sibling)) {
            throw new IndexOutOfBoundsException("the sibling does not exist");
        }
    }

    private void requireCell(int cell) {
        if (!cake.hasCell(cell)) {
            throw new IndexOutOfBoundsException("the cell does not exist");
        }
    }

    private void requireRun(int from, int to) {
        if (!cake.hasRun(from, to)) {
            throw new IllegalArgumentException("these are not the ends of consecutive cells");
        }
    }

    private void requireDifferent(int sibling, int other) {
        if (sibling == other) {
            throw new IllegalStateException("both are the same sibling");
        }
    }

    private void requireSlot(int slot) {
        if (slot < 0 || slot >= SLOTS) {
            throw new IndexOutOfBoundsException("the slot does not exist");
        }
    }

    /** Reads into the draft first, so that a text with an error leaves the cake as it is. */
    private boolean adoptSetup() {
        boolean valid = parser.readSetup(draft);
        input.length = 0;
        if (valid) {
            cake.become(draft);
            memory.forgetAll();
        }
        return valid;
    }

    private void writePiece(int from, int end) {
        if (from > 0) {
            output.add(' ');
        }
        output.addNumber(end - from);
        int owner = cake.owners[from];
        if (owner == NONE) {
            output.add('-');
            return;
        }
        for (int index = 0; index < cake.nameLengths[owner]; index++) {
            output.add(cake.names[owner * MAX_NAME + index]);
        }
    }

    /** A row of bytes, each held as 0 to 255. */
    private static final class Text {
        final int[] bytes = new int[MAX_TEXT];
        int length;

        void add(int octet) {
            if (length < MAX_TEXT) {
                bytes[length] = octet;
                length++;
            }
        }

        void addFourBytes(int packed) {
            for (int shift = 24; shift >= 0; shift -= 8) {
                add((packed >> shift) & 255);
            }
        }

        void addLetters(String letters) {
            for (int index = 0; index < letters.length(); index++) {
                add(letters.charAt(index));
            }
        }

        /** Two digits are enough: no number that is written exceeds the number of cells. */
        void addNumber(int number) {
            if (number >= 10) {
                add('0' + number / 10);
            }
            add('0' + number % 10);
        }
    }

    /** The siblings with their names and values, and the owner of every cell. */
    private static final class Cake {
        int cells;
        int siblings;
        final int[] names = new int[MAX_SIBLINGS * MAX_NAME];
        final int[] nameLengths = new int[MAX_SIBLINGS];
        final int[] values = new int[MAX_SIBLINGS * MAX_CELLS];
        final int[] owners = new int[MAX_CELLS];

        /** Takes over a setup; its owners are not part of it. */
        void become(Cake setup) {
            cells = setup.cells;
            siblings = setup.siblings;
            System.arraycopy(setup.names, 0, names, 0, names.length);
            System.arraycopy(setup.nameLengths, 0, nameLengths, 0, nameLengths.length);
            System.arraycopy(setup.values, 0, values, 0, values.length);
            assign(owners, NONE, 0, cells);
        }

        boolean hasSibling(int sibling) {
            return sibling >= 0 && sibling < siblings;
        }

        boolean hasCell(int cell) {
            return cell >= 0 && cell < cells;
        }

        boolean hasRun(int from, int to) {
            return hasCell(from) && hasCell(to) && from <= to;
        }

        int valueOf(int sibling, int cell) {
            return values[sibling * MAX_CELLS + cell];
        }

        void putValue(int sibling, int cell, int amount) {
            values[sibling * MAX_CELLS + cell] = amount;
        }

        int greatestValueOf(int cell) {
            int greatest = 0;
            for (int sibling = 0; sibling < siblings; sibling++) {
                greatest = Math.max(greatest, valueOf(sibling, cell));
            }
            return greatest;
        }

        int worthOfRun(int sibling, int from, int end) {
            int row = sibling * MAX_CELLS;
            int sum = 0;
            for (int cell = from; cell < end; cell++) {
                sum += values[row + cell];
            }
            return sum;
        }

        int worthOfAll(int sibling) {
            return worthOfRun(sibling, 0, cells);
        }

        int worthOfOwned(int[] shares, int sibling, int owner) {
            int row = sibling * MAX_CELLS;
            int sum = 0;
            for (int cell = 0; cell < cells; cell++) {
                if (shares[cell] == owner) {
                    sum += values[row + cell];
                }
            }
            return sum;
        }

        int welfareOf(int sibling) {
            return worthOfOwned(owners, sibling, sibling);
        }

        int leastWelfareAmong(int[] shares) {
            int least = worthOfOwned(shares, 0, 0);
            for (int sibling = 1; sibling < siblings; sibling++) {
                least = Math.min(least, worthOfOwned(shares, sibling, sibling));
            }
            return least;
        }

        int countOwned(int owner) {
            int count = 0;
            for (int cell = 0; cell < cells; cell++) {
                if (owners[cell] == owner) {
                    count++;
                }
            }
            return count;
        }

        int countPieces(int owner) {
            int count = 0;
            for (int cell = 0; cell < cells; cell++) {
                if (owners[cell] == owner && endsPiece(cell)) {
                    count++;
                }
            }
            return count;
        }

        boolean endsPiece(int cell) {
            return cell + 1 >= cells || owners[cell] != owners[cell + 1];
        }

        void assign(int[] shares, int owner, int from, int end) {
            for (int cell = from; cell < end; cell++) {
                shares[cell] = owner;
            }
        }

        void exchangeShares(int sibling, int other) {
            for (int cell = 0; cell < cells; cell++) {
                if (owners[cell] == sibling) {
                    owners[cell] = other;
                } else if (owners[cell] == other) {
                    owners[cell] = sibling;
                }
            }
        }

        void putName(int sibling, Text text, int from, int length) {
            for (int index = 0; index < length; index++) {
                names[sibling * MAX_NAME + index] = text.bytes[from + index];
            }
            nameLengths[sibling] = length;
        }

        int findName(Text text, int from, int length) {
            for (int sibling = 0; sibling < siblings; sibling++) {
                if (isName(sibling, text, from, length)) {
                    return sibling;
                }
            }
            return NONE;
        }

        private boolean isName(int sibling, Text text, int from, int length) {
            if (nameLengths[sibling] != length) {
                return false;
            }
            for (int index = 0; index < length; index++) {
                if (names[sibling * MAX_NAME + index] != text.bytes[from + index]) {
                    return false;
                }
            }
            return true;
        }
    }

    /** Who envies whom, and who has a fair share. */
    private static final class Fairness {
        private static final int UNREACHED = MAX_SIBLINGS;

        final int[] cycle = new int[MAX_SIBLINGS];
        private final int[] distances = new int[MAX_SIBLINGS];
        private final int[] worths = new int[MAX_SIBLINGS * MAX_SIBLINGS];
        private final Cake cake;

        Fairness(Cake cake) {
            this.cake = cake;
        }

        boolean hasEnvy(int sibling, int other) {
            int own = cake.worthOfOwned(cake.owners, sibling, sibling);
            return cake.worthOfOwned(cake.owners, sibling, other) > own;
        }

        /** The cell to leave out is the dearest one: if the envy outlives its loss, it outlives any other. */
        boolean hasStrongEnvy(int sibling, int other) {
            int worth = cake.worthOfOwned(cake.owners, sibling, other);
            return worth - dearestOwned(sibling, other) > cake.welfareOf(sibling);
        }

        private int dearestOwned(int sibling, int owner) {
            int dearest = 0;
            for (int cell = 0; cell < cake.cells; cell++) {
                if (cake.owners[cell] == owner) {
                    dearest = Math.max(dearest, cake.valueOf(sibling, cell));
                }
            }
            return dearest;
        }

        int countEnvies() {
            int count = 0;
            for (int other = 0; other < cake.siblings; other++) {
                count += countEnviers(other);
            }
            return count;
        }

        private int countEnviers(int other) {
            int count = 0;
            for (int sibling = 0; sibling < cake.siblings; sibling++) {
                if (hasEnvy(sibling, other)) {
                    count++;
                }
            }
            return count;
        }

        int countStrongEnvies() {
            int count = 0;
            for (int sibling = 0; sibling < cake.siblings; sibling++) {
                for (int other = 0; other < cake.siblings; other++) {
                    if (hasStrongEnvy(sibling, other)) {
                        count++;
                    }
                }
            }
            return count;
        }

        int findMostEnvied() {
            int found = 0;
            int most = 0;
            for (int other = 0; other < cake.siblings; other++) {
                int enviers = countEnviers(other);
                if (enviers > most) {
                    most = enviers;
                    found = other;
                }
            }
            return found;
        }

        boolean hasFairShare(int sibling) {
            return cake.welfareOf(sibling) * cake.siblings >= cake.worthOfAll(sibling);
        }

        int countFairShares() {
            int count = 0;
            for (int sibling = 0; sibling < cake.siblings; sibling++) {
                if (hasFairShare(sibling)) {
                    count++;
                }
            }
            return count;
        }

        /** Leaves the members in cycle and returns its length, or NONE. */
        int findCycle(int start) {
            measureWorths();
            measureDistances(start);
            int length = shortestWayRound(start);
            if (length == NONE) {
                return NONE;
            }
            cycle[0] = start;
            for (int position = 1; position < length; position++) {
                cycle[position] = firstEnviedAt(length - position, cycle[position - 1]);
            }
            return length;
        }

        private void measureWorths() {
            for (int sibling = 0; sibling < cake.siblings; sibling++) {
                for (int other = 0; other < cake.siblings; other++) {
                    worths[sibling * MAX_SIBLINGS + other] = cake.worthOfOwned(cake.owners, sibling, other);
                }
            }
        }

        /** The distance of a sibling is the least number of envies that lead from it to the start. */
        private void measureDistances(int start) {
            for (int sibling = 0; sibling < cake.siblings; sibling++) {
                distances[sibling] = UNREACHED;
            }
            distances[start] = 0;
            for (int distance = 1; distance < cake.siblings; distance++) {
                for (int sibling = 0; sibling < cake.siblings; sibling++) {
                    if (distances[sibling] == UNREACHED && firstEnviedAt(distance - 1, sibling) != NONE) {
                        distances[sibling] = distance;
                    }
                }
            }
        }

        private int shortestWayRound(int start) {
            for (int distance = 1; distance < cake.siblings; distance++) {
                if (firstEnviedAt(distance, start) != NONE) {
                    return distance + 1;
                }
            }
            return NONE;
        }

        private int firstEnviedAt(int distance, int sibling) {
            int row = sibling * MAX_SIBLINGS;
            for (int other = 0; other < cake.siblings; other++) {
                if (distances[other] == distance && worths[row + other] > worths[row + sibling]) {
                    return other;
                }
            }
            return NONE;
        }

        /** Returns the length of the cycle, or NONE if there is none and all shares stay where they are. */
        int rotateThrough(int start) {
            int length = findCycle(start);
            for (int cell = 0; cell < cake.cells; cell++) {
                cake.owners[cell] = ownerAfterRotation(cake.owners[cell], length);
            }
            return length;
        }

        private int ownerAfterRotation(int owner, int length) {
            int previous = length - 1;
            for (int position = 0; position < length; position++) {
                if (cycle[position] == owner) {
                    return cycle[previous];
                }
                previous = position;
            }
            return owner;
        }
    }

    /** The division procedures; those that can be tried out write to a row of owners that they are given. */
    private static final class Procedures {
        private final int[] trial = new int[MAX_CELLS];
        private final Cake cake;

        Procedures(Cake cake) {
            this.cake = cake;
        }

        int markOf(int sibling, int from, int parts) {
            int whole = cake.worthOfRun(sibling, from, cake.cells);
            int worth = 0;
            for (int cell = from; cell < cake.cells; cell++) {
                worth += cake.valueOf(sibling, cell);
                if (worth * parts >= whole) {
                    return cell;
                }
            }
            return cake.cells - 1;
        }

        int favouriteOf(int[] owners, int sibling) {
            int favourite = NONE;
            int greatest = -1;
            for (int cell = 0; cell < cake.cells; cell++) {
                if (owners[cell] == NONE && cake.valueOf(sibling, cell) > greatest) {
                    greatest = cake.valueOf(sibling, cell);
                    favourite = cell;
                }
            }
            return favourite;
        }

        int cutOf(int cutter) {
            int rightMinusLeft = cake.worthOfAll(cutter);
            int least = rightMinusLeft;
            int cut = 0;
            for (int cell = 0; cell < cake.cells; cell++) {
                rightMinusLeft -= 2 * cake.valueOf(cutter, cell);
                if (Math.abs(rightMinusLeft) < least) {
                    least = Math.abs(rightMinusLeft);
                    cut = cell + 1;
                }
            }
            return cut;
        }

        int cutAndChoose(int cutter, int chooser) {
            int cut = cutOf(cutter);
            int left = cake.worthOfRun(chooser, 0, cut);
            int right = cake.worthOfRun(chooser, cut, cake.cells);
            boolean choosesLeft = left >= right;
            cake.assign(cake.owners, choosesLeft ? chooser : cutter, 0, cut);
            cake.assign(cake.owners, choosesLeft ? cutter : chooser, cut, cake.cells);
            return cut;
        }

        void divideByKnife(int[] owners) {
            int served = 0;
            int from = 0;
            for (int waiting = cake.siblings; waiting > 1 && from < cake.cells; waiting--) {
                int taker = firstToCall(served, from, waiting);
                int end = markOf(taker, from, waiting) + 1;
                cake.assign(owners, taker, from, end);
                served |= 1 << taker;
                from = end;
            }
            // If several are still waiting here, no cell is left and the last piece is empty.
            cake.assign(owners, firstWaiting(served), from, cake.cells);
        }

        private int firstToCall(int served, int from, int waiting) {
            int taker = firstWaiting(served);
            int least = markOf(taker, from, waiting);
            for (int sibling = taker + 1; sibling < cake.siblings; sibling++) {
                if (isWaiting(served, sibling) && markOf(sibling, from, waiting) < least) {
                    taker = sibling;
                    least = markOf(sibling, from, waiting);
                }
            }
            return taker;
        }

        private int firstWaiting(int served) {
            int sibling = 0;
            while (sibling < cake.siblings - 1 && !isWaiting(served, sibling)) {
                sibling++;
            }
            return sibling;
        }

        private boolean isWaiting(int served, int sibling) {
            return ((served >> sibling) & 1) == 0;
        }

        int divideByRobin(int[] owners, int first) {
            int taker = first;
            for (int taken = 0; taken < cake.cells; taken++) {
                int cell = favouriteOf(owners, taker);
                if (cell == NONE) {
                    return taken;
                }
                owners[cell] = taker;
                taker = taker + 1 < cake.siblings ? taker + 1 : 0;
            }
            return cake.cells;
        }

        int tryKnife(int sibling) {
            divideByKnife(trial);
            return cake.worthOfOwned(trial, sibling, sibling);
        }

        int tryRobin(int sibling, int first) {
            divideTrialByRobin(first);
            return cake.worthOfOwned(trial, sibling, sibling);
        }

        private void divideTrialByRobin(int first) {
            cake.assign(trial, NONE, 0, cake.cells);
            divideByRobin(trial, first);
        }

        int findBestFirst() {
            int best = 0;
            int greatest = -1;
            for (int first = 0; first < cake.siblings; first++) {
                divideTrialByRobin(first);
                int least = cake.leastWelfareAmong(trial);
                if (least > greatest) {
                    greatest = least;
                    best = first;
                }
            }
            return best;
        }
    }

    /**
     * The best divisions into one piece for each sibling. A group is a set of siblings, a bit for each. No value is
     * negative, so cells that a group leaves over can go to any of its pieces and do no harm.
     */
    private static final class ContiguousDivisions {
        private static final int GROUPS = 1 << MAX_SIBLINGS;
        private static final int ENDS = MAX_CELLS + 1;
        /** The greatest power of two that a worth can reach: 24 cells of 9 are worth 216. */
        private static final int GREATEST_STEP = 128;

        private final int[] greatestSums = new int[GROUPS * ENDS];
        private final int[] leastEnds = new int[GROUPS];
        private final Cake cake;

        ContiguousDivisions(Cake cake) {
            this.cake = cake;
        }

        private int groupOfAll() {
            return (1 << cake.siblings) - 1;
        }

        private boolean contains(int group, int sibling) {
            return ((group >> sibling) & 1) == 1;
        }

        /** Finds, for each group and each end, the greatest sum of the group on the cells left of the end. */
        int findGreatestSum() {
            int all = groupOfAll();
            for (int group = 0; group <= all; group++) {
                for (int end = 0; end <= cake.cells; end++) {
                    greatestSums[group * ENDS + end] = 0;
                }
                for (int sibling = 0; sibling < cake.siblings; sibling++) {
                    if (contains(group, sibling)) {
                        raiseSums(group, sibling);
                    }
                }
            }
            return greatestSums[all * ENDS + cake.cells];
        }

        /** Takes the divisions into account in which the last piece goes to the sibling. */
        private void raiseSums(int group, int sibling) {
            int row = group * ENDS;
            int rowWithout = (group - (1 << sibling)) * ENDS;
            int sum = 0;
            for (int end = 0; end <= cake.cells; end++) {
                if (end > 0) {
                    sum += cake.valueOf(sibling, end - 1);
                }
                sum = Math.max(sum, greatestSums[rowWithout + end]);
                greatestSums[row + end] = Math.max(greatestSums[row + end], sum);
            }
        }

        /** Adds up powers of two, the greatest first: if each can have a worth, each can have any lesser one. */
        int findGreatestLeast() {
            int worth = 0;
            for (int step = GREATEST_STEP; step > 0; step /= 2) {
                if (canGiveEach(worth + step)) {
                    worth += step;
                }
            }
            return worth;
        }

        /** Finds, for each group, the least end to the left of which each member can have this worth. */
        private boolean canGiveEach(int worth) {
            int all = groupOfAll();
            leastEnds[0] = 0;
            for (int group = 1; group <= all; group++) {
                leastEnds[group] = cake.cells + 1;
                for (int sibling = 0; sibling < cake.siblings; sibling++) {
                    if (contains(group, sibling)) {
                        int from = leastEnds[group - (1 << sibling)];
                        leastEnds[group] = Math.min(leastEnds[group], endOfPiece(sibling, from, worth));
                    }
                }
            }
            return leastEnds[all] <= cake.cells;
        }

        private int endOfPiece(int sibling, int from, int worth) {
            int sum = 0;
            for (int cell = from; cell < cake.cells; cell++) {
                sum += cake.valueOf(sibling, cell);
                if (sum >= worth) {
                    return cell + 1;
                }
            }
            return cake.cells + 1;
        }
    }

    /** Earlier states: first a ring of those before the latest changes, then the saved ones. */
    private static final class Memory {
        private static final int PLACES = MAX_UNDO + SLOTS;
        private static final int VALUES = MAX_SIBLINGS * MAX_CELLS;

        int undoable;
        final boolean[] saved = new boolean[SLOTS];
        private int next;
        private final int[] owners = new int[PLACES * MAX_CELLS];
        private final int[] values = new int[PLACES * VALUES];

        void rememberForUndo(Cake cake) {
            keep(next, cake);
            next = next + 1 < MAX_UNDO ? next + 1 : 0;
            undoable = Math.min(undoable + 1, MAX_UNDO);
        }

        void undoLatest(Cake cake) {
            next = next > 0 ? next - 1 : MAX_UNDO - 1;
            undoable--;
            bringBack(next, cake);
        }

        void saveTo(int slot, Cake cake) {
            keep(MAX_UNDO + slot, cake);
            saved[slot] = true;
        }

        void restoreFrom(int slot, Cake cake) {
            bringBack(MAX_UNDO + slot, cake);
            undoable = 0;
        }

        void forgetAll() {
            undoable = 0;
            for (int slot = 0; slot < SLOTS; slot++) {
                saved[slot] = false;
            }
        }

        /** Only a new setup changes names and numbers, and it forgets every earlier state. */
        private void keep(int place, Cake cake) {
            System.arraycopy(cake.owners, 0, owners, place * MAX_CELLS, MAX_CELLS);
            System.arraycopy(cake.values, 0, values, place * VALUES, VALUES);
        }

        private void bringBack(int place, Cake cake) {
            System.arraycopy(owners, place * MAX_CELLS, cake.owners, 0, MAX_CELLS);
            System.arraycopy(values, place * VALUES, cake.values, 0, VALUES);
        }
    }

    /** The commands of a script; a letter n stands for a name and a # for a number that follows the word. */
    private enum Verb {
        GIVE("give", "n##"),
        FREE("free", "##"),
        SWAP("swap", "nn"),
        VALUE("value", "n##"),
        DIVIDE("divide", "nn"),
        KNIFE("knife", ""),
        ROBIN("robin", "n"),
        ROTATE("rotate", "n");

        final String word;
        final String pattern;

        Verb(String word, String pattern) {
            this.word = word;
            this.pattern = pattern;
        }
    }

    /** A script that was read without an error. */
    private static final class Script {
        private static final int ARGUMENTS = 3;

        private int length;
        private final Verb[] verbs = new Verb[MAX_COMMANDS];
        private final int[] arguments = new int[MAX_COMMANDS * ARGUMENTS];
        private final Cake cake;
        private final Fairness fairness;
        private final Procedures procedures;

        Script(Cake cake, Fairness fairness, Procedures procedures) {
            this.cake = cake;
            this.fairness = fairness;
            this.procedures = procedures;
        }

        void clear() {
            length = 0;
        }

        void addVerb(Verb verb) {
            if (length < MAX_COMMANDS) {
                verbs[length] = verb;
                length++;
            }
        }

        /** Sets an argument of the command that was added last. */
        void putArgument(int index, int argument) {
            if (length > 0 && index < ARGUMENTS) {
                arguments[(length - 1) * ARGUMENTS + index] = argument;
            }
        }

        /** Returns how many commands were executed: all before the first one that is not allowed. */
        int execute() {
            for (int command = 0; command < length; command++) {
                Verb verb = verbs[command];
                int first = arguments[command * ARGUMENTS];
                int second = arguments[command * ARGUMENTS + 1];
                int third = arguments[command * ARGUMENTS + 2];
                if (verb == null || !isAllowed(verb, first, second, third)) {
                    return command;
                }
                carryOut(verb, first, second, third);
            }
            return length;
        }

        /** The parser has seen to it that the siblings exist and that no number is negative. */
        private boolean isAllowed(Verb verb, int first, int second, int third) {
            switch (verb) {
                case GIVE:
                    return cake.hasRun(second, third);
                case FREE:
                    return cake.hasRun(first, second);
                case SWAP:
                case DIVIDE:
                    return first != second;
                case VALUE:
                    return cake.hasCell(second) && third <= MAX_VALUE;
                case ROTATE:
                    return fairness.findCycle(first) != NONE;
                default:
                    return true;
            }
        }

        private void carryOut(Verb verb, int first, int second, int third) {
            switch (verb) {
                case GIVE:
                    cake.assign(cake.owners, first, second, third + 1);
                    break;
                case FREE:
                    cake.assign(cake.owners, NONE, first, second + 1);
                    break;
                case SWAP:
                    cake.exchangeShares(first, second);
                    break;
                case VALUE:
                    cake.putValue(first, second, third);
                    break;
                case DIVIDE:
                    procedures.cutAndChoose(first, second);
                    break;
                case KNIFE:
                    procedures.divideByKnife(cake.owners);
                    break;
                case ROBIN:
                    procedures.divideByRobin(cake.owners, first);
                    break;
                case ROTATE:
                    fairness.rotateThrough(first);
                    break;
                default:
                    break;
            }
        }
    }

    /** Reads the input text from left to right and stops at the first token with an error. */
    private static final class Parser {
        private static final Verb[] VERBS = Verb.values();

        private static final int NO_ERROR = 0;
        private static final int WRONG_TOKEN = 1;
        private static final int OUT_OF_RANGE = 2;
        private static final int WRONG_NAME = 3;
        private static final int TOO_MANY = 4;
        private static final int NO_POSITION = -1;

        private static final int END = 0;
        private static final int WORD = 1;
        private static final int NUMBER = 2;
        private static final int SEMICOLON = 3;
        private static final int SEPARATOR = 4;
        private static final int INVALID = 5;

        private static final int MAX_LETTERS = 8;
        private static final int MAX_DIGITS = 2;
        private static final int GREATEST_NUMBER = 99;

        int foundCode;
        int foundPosition;
        private int kind;
        private int start;
        private int end;
        /** The number that was read last, or the number of the sibling whose name was. */
        private int taken;
        private final Text text;

        Parser(Text text) {
            this.text = text;
        }

        boolean readSetup(Cake setup) {
            begin();
            if (!takeWord("cake") || !takeNumber(1, MAX_CELLS)) {
                return false;
            }
            setup.cells = taken;
            if (!takeSemicolon()) {
                return false;
            }
            for (int sibling = 0; sibling < MAX_SIBLINGS; sibling++) {
                setup.siblings = sibling;
                if (!readSibling(setup, sibling)) {
                    return false;
                }
                setup.siblings = sibling + 1;
                if (kind == END) {
                    return true;
                }
            }
            return refuse(isWord("sibling") ? TOO_MANY : WRONG_TOKEN);
        }

        private boolean readSibling(Cake setup, int sibling) {
            if (!takeWord("sibling") || !takeNewName(setup, sibling)) {
                return false;
            }
            for (int cell = 0; cell < setup.cells; cell++) {
                if (!takeNumber(0, MAX_VALUE)) {
                    return false;
                }
                setup.putValue(sibling, cell, taken);
            }
            return takeSemicolon();
        }

        boolean readScript(Script script, Cake cake) {
            begin();
            script.clear();
            for (int command = 0; command < MAX_COMMANDS; command++) {
                if (kind == END) {
                    return true;
                }
                if (!readCommand(script, cake)) {
                    return false;
                }
            }
            return kind == END || refuse(findVerb() == null ? WRONG_TOKEN : TOO_MANY);
        }

        private boolean readCommand(Script script, Cake cake) {
            Verb verb = findVerb();
            if (verb == null) {
                return refuse(WRONG_TOKEN);
            }
            script.addVerb(verb);
            advance();
            for (int index = 0; index < verb.pattern.length(); index++) {
                boolean isName = verb.pattern.charAt(index) == 'n';
                if (!(isName ? takeKnownName(cake) : takeNumber(0, GREATEST_NUMBER))) {
                    return false;
                }
                script.putArgument(index, taken);
            }
            return takeSemicolon();
        }

        private Verb findVerb() {
            for (int index = 0; index < VERBS.length; index++) {
                if (isWord(VERBS[index].word)) {
                    return VERBS[index];
                }
            }
            return null;
        }

        private boolean refuse(int code) {
            foundCode = code;
            foundPosition = start;
            return false;
        }

        private boolean takeWord(String word) {
            if (!isWord(word)) {
                return refuse(WRONG_TOKEN);
            }
            advance();
            return true;
        }

        private boolean takeSemicolon() {
            if (kind != SEMICOLON) {
                return refuse(WRONG_TOKEN);
            }
            advance();
            return true;
        }

        private boolean takeNumber(int least, int greatest) {
            if (kind != NUMBER) {
                return refuse(WRONG_TOKEN);
            }
            taken = numberOfToken();
            if (taken < least || taken > greatest) {
                return refuse(OUT_OF_RANGE);
            }
            advance();
            return true;
        }

        private boolean takeNewName(Cake setup, int sibling) {
            if (kind != WORD) {
                return refuse(WRONG_TOKEN);
            }
            int length = end - start;
            if (length > MAX_NAME || setup.findName(text, start, length) != NONE) {
                return refuse(WRONG_NAME);
            }
            setup.putName(sibling, text, start, length);
            advance();
            return true;
        }

        private boolean takeKnownName(Cake cake) {
            if (kind != WORD) {
                return refuse(WRONG_TOKEN);
            }
            taken = cake.findName(text, start, end - start);
            if (taken == NONE) {
                return refuse(WRONG_NAME);
            }
            advance();
            return true;
        }

        private boolean isWord(String word) {
            if (kind != WORD || end - start != word.length()) {
                return false;
            }
            for (int index = 0; index < word.length(); index++) {
                if (text.bytes[start + index] != word.charAt(index)) {
                    return false;
                }
            }
            return true;
        }

        private int numberOfToken() {
            int number = 0;
            for (int index = start; index < end; index++) {
                number = 10 * number + text.bytes[index] - '0';
            }
            return number;
        }

        private void begin() {
            foundCode = NO_ERROR;
            foundPosition = NO_POSITION;
            end = 0;
            advance();
        }

        private void advance() {
            start = end;
            while (start < text.length && kindOf(text.bytes[start]) == SEPARATOR) {
                start++;
            }
            kind = start < text.length ? kindOf(text.bytes[start]) : END;
            end = kind == END ? start : start + 1;
            if (kind == WORD || kind == NUMBER) {
                int limit = start + (kind == WORD ? MAX_LETTERS : MAX_DIGITS);
                while (end < text.length && kindOf(text.bytes[end]) == kind) {
                    end++;
                }
                kind = end > limit ? INVALID : kind;
            }
        }

        private static int kindOf(int octet) {
            if (octet >= 'a' && octet <= 'z') {
                return WORD;
            }
            if (octet >= '0' && octet <= '9') {
                return NUMBER;
            }
            if (octet == ' ' || octet == '\n') {
                return SEPARATOR;
            }
            return octet == ';' ? SEMICOLON : INVALID;
        }
    }
}

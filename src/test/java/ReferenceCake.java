import java.util.ArrayDeque;
import java.util.ArrayList;
import java.util.Arrays;
import java.util.Deque;
import java.util.List;
import java.util.NoSuchElementException;
import java.util.regex.Matcher;
import java.util.regex.Pattern;

/**
 * The document once more, written from its words without a care for speed, with the whole Java library, and with
 * other algorithms than the class: whole copies for undo, patterns for tokens, trials for cycles and divisions.
 */
public final class ReferenceCake {
    private static final int NONE = -1;
    private static final Pattern TOKEN = Pattern.compile("[a-z]+|[0-9]+|;|[ \n]|.", Pattern.DOTALL);
    private static final String WORDS = "[a-z]{1,8}";
    private static final String NUMBERS = "[0-9]{1,2}";

    private List<String> names = List.of("ann", "bob", "cid");
    private int[][] values = {{1, 2, 3, 4, 4, 3, 2, 1}, {9, 0, 0, 0, 0, 0, 0, 9}, {1, 1, 1, 1, 1, 1, 1, 1}};
    private int[] owners = free(8);
    private String buffer = "";
    private String output = "";
    private int errorCode = 0;
    private int errorPosition = -1;
    private final Deque<State> history = new ArrayDeque<>();
    private final State[] saved = new State[2];

    private record State(int[][] values, int[] owners) {
    }

    private record Token(String text, int position) {
    }

    private static final class TextError extends RuntimeException {
        final int code;
        final int position;

        TextError(int code, int position) {
            this.code = code;
            this.position = position;
        }
    }

    private static int[] free(int cells) {
        int[] owners = new int[cells];
        Arrays.fill(owners, NONE);
        return owners;
    }

    private State copy() {
        return new State(Arrays.stream(values).map(int[]::clone).toArray(int[][]::new), owners.clone());
    }

    private void become(State state) {
        values = Arrays.stream(state.values).map(int[]::clone).toArray(int[][]::new);
        owners = state.owners.clone();
    }

    private void changing() {
        history.push(copy());
        if (history.size() > 6) {
            history.removeLast();
        }
    }

    private void sibling(int... siblings) {
        for (int sibling : siblings) {
            if (sibling < 0 || sibling >= names.size()) {
                throw new IndexOutOfBoundsException();
            }
        }
    }

    private void cell(int cell) {
        if (cell < 0 || cell >= owners.length) {
            throw new IndexOutOfBoundsException();
        }
    }

    private void run(int from, int to) {
        if (from < 0 || to >= owners.length || from > to) {
            throw new IllegalArgumentException();
        }
    }

    // ---- input

    public int append(int a, int b, int c, int d, int e) {
        if (buffer.length() > 580) {
            throw new IllegalStateException();
        }
        for (int part : new int[] {a, b, c, d, e}) {
            for (int octet : new int[] {part >>> 24, part >>> 16 & 0xff, part >>> 8 & 0xff, part & 0xff}) {
                buffer += (char) octet;
            }
        }
        return buffer.length();
    }

    public int truncate(int length) {
        if (length < 0 || length > buffer.length()) {
            throw new IllegalArgumentException();
        }
        buffer = buffer.substring(0, length);
        return length;
    }

    private List<Token> tokens(String text) {
        List<Token> tokens = new ArrayList<>();
        Matcher matcher = TOKEN.matcher(text);
        while (matcher.find()) {
            if (!matcher.group().matches("[ \n]")) {
                tokens.add(new Token(matcher.group(), matcher.start()));
            }
        }
        tokens.add(new Token("", text.length()));
        return tokens;
    }

    private Token next(List<Token> tokens, String pattern) {
        Token token = tokens.remove(0);
        if (!token.text.matches(pattern)) {
            throw new TextError(1, token.position);
        }
        return token;
    }

    private int number(List<Token> tokens, int least, int greatest) {
        Token token = next(tokens, NUMBERS);
        int number = Integer.parseInt(token.text);
        if (number < least || number > greatest) {
            throw new TextError(2, token.position);
        }
        return number;
    }

    private void parseSetup(List<Token> tokens) {
        next(tokens, "cake");
        int cells = number(tokens, 1, 24);
        next(tokens, ";");
        List<String> newNames = new ArrayList<>();
        List<int[]> newValues = new ArrayList<>();
        do {
            Token word = next(tokens, "sibling");
            if (newNames.size() == 6) {
                throw new TextError(4, word.position);
            }
            Token name = next(tokens, WORDS);
            if (name.text.length() > 6 || newNames.contains(name.text)) {
                throw new TextError(3, name.position);
            }
            newNames.add(name.text);
            int[] row = new int[cells];
            for (int cell = 0; cell < cells; cell++) {
                row[cell] = number(tokens, 0, 9);
            }
            newValues.add(row);
            next(tokens, ";");
        } while (!tokens.get(0).text.isEmpty());
        names = newNames;
        values = newValues.toArray(new int[0][]);
        owners = free(cells);
    }

    private void parse(Runnable parser) {
        errorCode = 0;
        errorPosition = -1;
        try {
            parser.run();
        } catch (TextError error) {
            errorCode = error.code;
            errorPosition = error.position;
            throw new IllegalArgumentException();
        } finally {
            buffer = "";
        }
    }

    public int load() {
        List<Token> tokens = tokens(buffer);
        parse(() -> parseSetup(tokens));
        history.clear();
        saved[0] = null;
        saved[1] = null;
        return names.size();
    }

    public int errorCode() {
        return errorCode;
    }

    public int errorPosition() {
        return errorPosition;
    }

    // ---- cake and shares

    public int cellCount() {
        return owners.length;
    }

    public int siblingCount() {
        return names.size();
    }

    public int nameByte(int sibling, int index) {
        sibling(sibling);
        return names.get(sibling).charAt(index);
    }

    public int findSibling() {
        if (!names.contains(buffer)) {
            throw new NoSuchElementException();
        }
        return names.indexOf(buffer);
    }

    public int value(int sibling, int cell) {
        sibling(sibling);
        cell(cell);
        return values[sibling][cell];
    }

    public int owner(int cell) {
        cell(cell);
        return owners[cell];
    }

    public int worth(int sibling, int from, int to) {
        sibling(sibling);
        run(from, to);
        return Arrays.stream(values[sibling], from, to + 1).sum();
    }

    public int total(int sibling) {
        sibling(sibling);
        return Arrays.stream(values[sibling]).sum();
    }

    private List<Integer> share(int owner) {
        List<Integer> cells = new ArrayList<>();
        for (int cell = 0; cell < owners.length; cell++) {
            if (owners[cell] == owner) {
                cells.add(cell);
            }
        }
        return cells;
    }

    public int worthOfShare(int sibling, int other) {
        sibling(sibling, other);
        return share(other).stream().mapToInt(cell -> values[sibling][cell]).sum();
    }

    public int shareSize(int sibling) {
        sibling(sibling);
        return share(sibling).size();
    }

    public int pieceCount(int sibling) {
        sibling(sibling);
        List<Integer> share = share(sibling);
        return (int) share.stream().filter(cell -> !share.contains(cell - 1)).count();
    }

    public int freeCount() {
        return share(NONE).size();
    }

    public int mark(int sibling, int cell, int parts) {
        sibling(sibling);
        cell(cell);
        if (parts < 1 || parts > 24) {
            throw new IllegalArgumentException();
        }
        int end = cell;
        while (worth(sibling, cell, end) * parts < worth(sibling, cell, owners.length - 1)) {
            end++;
        }
        return end;
    }

    public int favouriteFreeCell(int sibling) {
        sibling(sibling);
        int best = NONE;
        for (int cell : share(NONE)) {
            if (best == NONE || values[sibling][cell] > values[sibling][best]) {
                best = cell;
            }
        }
        return best;
    }

    // ---- fairness

    public boolean envies(int sibling, int other) {
        return worthOfShare(sibling, other) > worthOfShare(sibling, sibling);
    }

    public boolean isMild(int sibling, int other) {
        if (!envies(sibling, other)) {
            throw new IllegalStateException();
        }
        return share(other).stream().anyMatch(
            cell -> worthOfShare(sibling, other) - values[sibling][cell] <= worthOfShare(sibling, sibling));
    }

    public int envyCount() {
        int count = 0;
        for (int sibling = 0; sibling < names.size(); sibling++) {
            for (int other = 0; other < names.size(); other++) {
                count += envies(sibling, other) ? 1 : 0;
            }
        }
        return count;
    }

    public int strongEnvyCount() {
        int count = 0;
        for (int sibling = 0; sibling < names.size(); sibling++) {
            for (int other = 0; other < names.size(); other++) {
                count += envies(sibling, other) && !isMild(sibling, other) ? 1 : 0;
            }
        }
        return count;
    }

    public int mostEnvied() {
        int[] enviers = new int[names.size()];
        for (int sibling = 0; sibling < names.size(); sibling++) {
            for (int other = 0; other < names.size(); other++) {
                enviers[other] += envies(sibling, other) ? 1 : 0;
            }
        }
        int most = Arrays.stream(enviers).max().getAsInt();
        int found = 0;
        while (enviers[found] < most) {
            found++;
        }
        return found;
    }

    public boolean isSatisfied(int sibling) {
        return worthOfShare(sibling, sibling) * names.size() >= total(sibling);
    }

    public int satisfiedCount() {
        int count = 0;
        for (int sibling = 0; sibling < names.size(); sibling++) {
            count += isSatisfied(sibling) ? 1 : 0;
        }
        return count;
    }

    /** Tries the sequences of a length in lexicographic order. */
    private List<Integer> cycle(List<Integer> begun, int length) {
        int last = begun.get(begun.size() - 1);
        if (begun.size() == length) {
            return envies(last, begun.get(0)) ? begun : null;
        }
        for (int other = 0; other < names.size(); other++) {
            if (envies(last, other) && !begun.contains(other)) {
                List<Integer> longer = new ArrayList<>(begun);
                longer.add(other);
                List<Integer> found = cycle(longer, length);
                if (found != null) {
                    return found;
                }
            }
        }
        return null;
    }

    private List<Integer> shortestCycle(int sibling) {
        for (int length = 2; length <= names.size(); length++) {
            List<Integer> found = cycle(List.of(sibling), length);
            if (found != null) {
                return found;
            }
        }
        return List.of();
    }

    public int envyCycleLength(int sibling) {
        sibling(sibling);
        List<Integer> found = shortestCycle(sibling);
        return found.isEmpty() ? NONE : found.size();
    }

    public int envyCycleMember(int sibling, int position) {
        sibling(sibling);
        List<Integer> found = shortestCycle(sibling);
        if (position < 0 || position >= found.size()) {
            throw new NoSuchElementException();
        }
        return found.get(position);
    }

    public boolean wouldSwap(int sibling, int other) {
        return envies(sibling, other) && envies(other, sibling);
    }

    // ---- welfare

    private int[] welfares() {
        int[] welfares = new int[names.size()];
        for (int sibling = 0; sibling < names.size(); sibling++) {
            welfares[sibling] = worthOfShare(sibling, sibling);
        }
        return welfares;
    }

    public int totalWelfare() {
        return Arrays.stream(welfares()).sum();
    }

    public int leastWelfare() {
        return Arrays.stream(welfares()).min().getAsInt();
    }

    public long welfareProduct() {
        return Arrays.stream(welfares()).asLongStream().reduce(1, (product, welfare) -> product * welfare);
    }

    public int greatestTotalWelfare() {
        int sum = 0;
        for (int cell = 0; cell < owners.length; cell++) {
            int greatest = 0;
            for (int[] row : values) {
                greatest = Math.max(greatest, row[cell]);
            }
            sum += greatest;
        }
        return sum;
    }

    /** The best of all ways to cut the cells from from on for the siblings who are not yet served. */
    private int best(int served, int from, boolean least, int[][] known) {
        if (Integer.bitCount(served) == names.size()) {
            return from < owners.length ? -1_000_000 : least ? 1_000_000 : 0;
        }
        if (known[served][from] != 0) {
            return known[served][from];
        }
        int best = -1_000_000;
        for (int sibling = 0; sibling < names.size(); sibling++) {
            int worth = 0;
            for (int end = from; end <= owners.length && (served & 1 << sibling) == 0; end++) {
                worth += end > from ? values[sibling][end - 1] : 0;
                int rest = best(served | 1 << sibling, end, least, known);
                best = Math.max(best, least ? Math.min(worth, rest) : worth + rest);
            }
        }
        known[served][from] = best;
        return best;
    }

    public int greatestContiguousWelfare() {
        return best(0, 0, false, new int[64][25]);
    }

    public int bestLeastWelfare() {
        return best(0, 0, true, new int[64][25]);
    }

    public int cutCount() {
        int count = 0;
        for (int cell = 1; cell < owners.length; cell++) {
            count += owners[cell - 1] == owners[cell] ? 0 : 1;
        }
        return count;
    }

    public float satisfaction(int sibling) {
        return total(sibling) == 0 ? 0.0f : (float) worthOfShare(sibling, sibling) / (float) total(sibling);
    }

    public double meanPieces() {
        double pieces = 0;
        for (int sibling = 0; sibling < names.size(); sibling++) {
            pieces += pieceCount(sibling);
        }
        return pieces / names.size();
    }

    public int inconsistencies() {
        return 0;
    }

    // ---- what would be: made and taken back

    public int cutFor(int sibling) {
        sibling(sibling);
        int best = 0;
        for (int cut = 1; cut <= owners.length; cut++) {
            if (difference(sibling, cut) < difference(sibling, best)) {
                best = cut;
            }
        }
        return best;
    }

    private int difference(int sibling, int cut) {
        return Math.abs(side(sibling, 0, cut) - side(sibling, cut, owners.length));
    }

    private int side(int sibling, int from, int end) {
        return Arrays.stream(values[sibling], from, end).sum();
    }

    public int welfareByKnife(int sibling) {
        sibling(sibling);
        State before = copy();
        knife();
        int welfare = worthOfShare(sibling, sibling);
        become(before);
        return welfare;
    }

    public int welfareByRobin(int sibling, int first) {
        sibling(sibling, first);
        State before = copy();
        owners = free(owners.length);
        robin(first);
        int welfare = worthOfShare(sibling, sibling);
        become(before);
        return welfare;
    }

    public int bestFirst() {
        int best = 0;
        int greatest = -1;
        for (int first = 0; first < names.size(); first++) {
            int least = Integer.MAX_VALUE;
            for (int sibling = 0; sibling < names.size(); sibling++) {
                least = Math.min(least, welfareByRobin(sibling, first));
            }
            if (least > greatest) {
                greatest = least;
                best = first;
            }
        }
        return best;
    }

    // ---- changes

    private void assign(int owner, int from, int to) {
        Arrays.fill(owners, from, to + 1, owner);
    }

    public int give(int sibling, int from, int to) {
        sibling(sibling);
        run(from, to);
        changing();
        assign(sibling, from, to);
        return worthOfShare(sibling, sibling);
    }

    public int release(int from, int to) {
        run(from, to);
        changing();
        assign(NONE, from, to);
        return freeCount();
    }

    private void different(int sibling, int other) {
        if (sibling == other) {
            throw new IllegalStateException();
        }
    }

    public int swapShares(int sibling, int other) {
        sibling(sibling, other);
        different(sibling, other);
        changing();
        List<Integer> first = share(sibling);
        List<Integer> second = share(other);
        first.forEach(cell -> owners[cell] = other);
        second.forEach(cell -> owners[cell] = sibling);
        return envyCount();
    }

    public int setValue(int sibling, int cell, int value) {
        sibling(sibling);
        cell(cell);
        if (value < 0 || value > 9) {
            throw new IllegalArgumentException();
        }
        changing();
        int previous = values[sibling][cell];
        values[sibling][cell] = value;
        return previous;
    }

    public int divideAndChoose(int cutter, int chooser) {
        sibling(cutter, chooser);
        different(cutter, chooser);
        changing();
        int cut = cutFor(cutter);
        boolean right = side(chooser, cut, owners.length) > side(chooser, 0, cut);
        for (int cell = 0; cell < owners.length; cell++) {
            owners[cell] = cell >= cut == right ? chooser : cutter;
        }
        return cut;
    }

    public int movingKnife() {
        changing();
        knife();
        return satisfiedCount();
    }

    private void knife() {
        owners = free(owners.length);
        List<Integer> waiting = new ArrayList<>();
        for (int sibling = 0; sibling < names.size(); sibling++) {
            waiting.add(sibling);
        }
        int left = 0;
        while (waiting.size() > 1 && left < owners.length) {
            Integer least = waiting.get(0);
            for (Integer sibling : waiting) {
                if (mark(sibling, left, waiting.size()) < mark(least, left, waiting.size())) {
                    least = sibling;
                }
            }
            int end = mark(least, left, waiting.size());
            assign(least, left, end);
            waiting.remove(least);
            left = end + 1;
        }
        if (waiting.size() == 1 && left < owners.length) {
            assign(waiting.get(0), left, owners.length - 1);
        }
    }

    public int roundRobin(int first) {
        sibling(first);
        changing();
        return robin(first);
    }

    private int robin(int first) {
        int taken = 0;
        while (freeCount() > 0) {
            int taker = (first + taken) % names.size();
            owners[favouriteFreeCell(taker)] = taker;
            taken++;
        }
        return taken;
    }

    public int rotate(int sibling) {
        sibling(sibling);
        List<Integer> members = shortestCycle(sibling);
        if (members.isEmpty()) {
            throw new IllegalStateException();
        }
        changing();
        int[] before = owners.clone();
        for (int position = 0; position < members.size(); position++) {
            int next = members.get((position + 1) % members.size());
            for (int cell = 0; cell < owners.length; cell++) {
                if (before[cell] == next) {
                    owners[cell] = members.get(position);
                }
            }
        }
        return members.size();
    }

    private static String parametersOf(String verb) {
        switch (verb) {
            case "give":
            case "value":
                return "n##";
            case "free":
                return "##";
            case "swap":
            case "divide":
                return "nn";
            case "knife":
                return "";
            default:
                return "n";
        }
    }

    private void parseScript(List<Token> tokens, List<String> verbs, List<int[]> arguments) {
        while (!tokens.get(0).text.isEmpty()) {
            Token verb = next(tokens, "give|free|swap|value|divide|knife|robin|rotate");
            if (verbs.size() == 30) {
                throw new TextError(4, verb.position);
            }
            int[] read = new int[3];
            String parameters = parametersOf(verb.text);
            for (int index = 0; index < parameters.length(); index++) {
                Token token = next(tokens, parameters.charAt(index) == 'n' ? WORDS : NUMBERS);
                if (parameters.charAt(index) == 'n' && !names.contains(token.text)) {
                    throw new TextError(3, token.position);
                }
                read[index] = parameters.charAt(index) == 'n' ? names.indexOf(token.text)
                    : Integer.parseInt(token.text);
            }
            next(tokens, ";");
            verbs.add(verb.text);
            arguments.add(read);
        }
    }

    private void call(String verb, int a, int b, int c) {
        switch (verb) {
            case "give" -> give(a, b, c);
            case "free" -> release(a, b);
            case "swap" -> swapShares(a, b);
            case "value" -> setValue(a, b, c);
            case "divide" -> divideAndChoose(a, b);
            case "knife" -> movingKnife();
            case "robin" -> roundRobin(a);
            default -> rotate(a);
        }
    }

    public int runScript() {
        List<Token> tokens = tokens(buffer);
        List<String> verbs = new ArrayList<>();
        List<int[]> arguments = new ArrayList<>();
        parse(() -> parseScript(tokens, verbs, arguments));
        Deque<State> before = new ArrayDeque<>(history);
        State start = copy();
        int executed = 0;
        try {
            while (executed < verbs.size()) {
                int[] read = arguments.get(executed);
                call(verbs.get(executed), read[0], read[1], read[2]);
                executed++;
            }
        } catch (RuntimeException refused) {
            // The commands before this one stand.
        }
        history.clear();
        history.addAll(before);
        history.push(start);
        if (history.size() > 6) {
            history.removeLast();
        }
        return executed;
    }

    // ---- undo, saved states, output

    public int undo() {
        if (history.isEmpty()) {
            throw new IllegalStateException();
        }
        become(history.pop());
        return history.size();
    }

    public int save(int slot) {
        if (slot != 0 && slot != 1) {
            throw new IndexOutOfBoundsException();
        }
        saved[slot] = copy();
        return freeCount();
    }

    public int restore(int slot) {
        if (slot != 0 && slot != 1) {
            throw new IndexOutOfBoundsException();
        }
        if (saved[slot] == null) {
            throw new IllegalStateException();
        }
        become(saved[slot]);
        history.clear();
        return freeCount();
    }

    public int writeOwners() {
        List<String> runs = new ArrayList<>();
        int from = 0;
        for (int cell = 1; cell <= owners.length; cell++) {
            if (cell == owners.length || owners[cell] != owners[from]) {
                runs.add((cell - from) + (owners[from] == NONE ? "-" : names.get(owners[from])));
                from = cell;
            }
        }
        output = String.join(" ", runs);
        return output.length();
    }

    public int outputByte(int index) {
        return output.charAt(index);
    }
}

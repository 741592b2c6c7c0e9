import java.util.ArrayDeque;
import java.util.Arrays;

/** "What it is" and, of "Terms", the cake, fairness, marks, contiguous divisions and undo. */
final class TermsChapter extends Chapter {
    private static final int MAX_CALLS = 512;

    TermsChapter(Sentences sentences, Check check) {
        super(sentences, check);
    }

    @Override
    void test() {
        in("What it is");
        plain("A simulator of fair division.", "what later calls answer is free.");
        says("An object is used for at most 512 calls after it has been made;", this::lastOf512Calls);
        in("Terms");
        plain("A cake consists of cells in a row that siblings value differently.",
            "The class measures shares, envy and welfare, runs four division procedures (divide and choose, moving "
            + "knife, round robin, envy cycle elimination), and computes optimal divisions into contiguous pieces.",
            "Cake.", "Fairness.", "Marks.", "Contiguous divisions.", "Undo.");
        cake();
        fairness();
        marks();
        divisions();
        undo();
        constants();
    }

    private void lastOf512Calls() {
        CakeDivision cake = first();
        for (int call = 1; call < MAX_CALLS - 1; call++) {
            cake.setValue(0, 0, call % 10);
        }
        same("the 511th call", cake.undo(), 5);
        same("the 512th call", cake.value(0, 0), 9);
        CakeDivision changed = first();
        for (int call = 1; call < MAX_CALLS; call++) {
            changed.give(call % 3, call % 8, call % 8);
        }
        same("the 512th call, a change", changed.give(2, 0, 7), 8);
    }

    private void cake() {
        says("A cake has 1 to 24 cells, numbered from 0 from left to right.", this::oneTo24Cells);
        says("There are 1 to 6 siblings, numbered from 0 in the order of the setup text.", this::oneTo6Siblings);
        says("A sibling has a name of 1 to 6 letters a to z and values every cell with an integer from 0 to 9.",
            this::namesAndValues);
        says("Names are distinct.", this::distinctNames);
        says("Each cell is owned by one sibling, or it is free.", this::oneOwnerOrNone);
        says("The share of a sibling is the set of cells that it owns.", this::sharesOfCells);
        says("The worth of a set of cells for a sibling is the sum of the sibling's values of these cells.",
            this::worthOfSets);
        says("The total of a sibling is the worth of the whole cake for it.", this::totals);
    }

    private void oneTo24Cells() {
        loadFails("cake 0;sibling a;", 2, 5);
        loads(Cakes.equal(1, 1, 1));
        loads(Cakes.equal(2, 1, 1));
        loads(Cakes.equal(23, 1, 1));
        loads(Cakes.equal(24, 1, 1));
        loadFails(Cakes.equal(25, 1, 1), 2, 5);
        CakeDivision cake = greatest();
        same("the value on the very left", cake.value(0, 0), 0);
        same("the value on the very right", cake.value(0, 23), 3);
        cake.give(5, 23, 23);
        cake.give(1, 0, 0);
        cake.writeOwners();
        same("the owners from left to right", Cakes.output(cake), "1b 22- 1f");
    }

    private void oneTo6Siblings() {
        loadFails("cake 1;", 1, 7);
        loads(Cakes.equal(1, 1, 1));
        loads(Cakes.equal(1, 2, 1));
        loads(Cakes.equal(1, 5, 1));
        loads(Cakes.equal(1, 6, 1));
        loadFails(Cakes.equal(1, 7, 1), 4, Cakes.equal(1, 6, 1).length());
        CakeDivision cake = Cakes.of("cake 1;sibling z 1;sibling y 2;sibling x 3;sibling c 4;sibling b 5;sibling a 6;");
        String names = "zyxcba";
        for (int sibling = 0; sibling < 6; sibling++) {
            same("the name of " + sibling, cake.nameByte(sibling, 0), names.charAt(sibling));
            same("the value of " + sibling, cake.value(sibling, 0), sibling + 1);
        }
    }

    private void namesAndValues() {
        loadFails("cake 1;sibling 1;", 1, 15);
        loads("cake 1;sibling a 0;");
        loads("cake 1;sibling z 9;");
        loads("cake 1;sibling abcxyz 1;");
        loadFails("cake 1;sibling abcxyza 1;", 3, 15);
        loadFails("cake 1;sibling ` 1;", 1, 15);
        loadFails("cake 1;sibling { 1;", 1, 15);
        loadFails("cake 1;sibling A 1;", 1, 15);
        loadFails("cake 1;sibling a -1;", 1, 17);
        loadFails("cake 1;sibling a 10;", 2, 17);
    }

    private void distinctNames() {
        loadFails("cake 1;sibling ab 1;sibling ab 1;", 3, 28);
        loads("cake 1;sibling ab 1;sibling a 1;sibling abc 1;sibling ac 1;sibling bb 1;sibling ba 1;");
        loads("cake 1;sibling abcdef 1;sibling abcdeg 1;sibling bbcdef 1;");
        loadFails(Cakes.equal(1, 5, 1) + "sibling a 1;", 3, 7 + 5 * 12 + 8);
        loadFails(Cakes.equal(1, 5, 1) + "sibling e 1;", 3, 7 + 5 * 12 + 8);
    }

    private void oneOwnerOrNone() {
        CakeDivision cake = first();
        cake.give(0, 0, 7);
        cake.give(1, 3, 3);
        same("the cell of the one", cake.owner(3), 1);
        same("what is left of the other", cake.shareSize(0), 7);
        cake.release(3, 3);
        same("the free cell", cake.owner(3), NONE);
        same("the share without it", cake.shareSize(1), 0);
    }

    private void sharesOfCells() {
        CakeDivision cake = first();
        same("an empty share", cake.shareSize(2), 0);
        same("its worth", cake.worthOfShare(2, 2), 0);
        cake.give(2, 0, 7);
        same("a share of all cells", cake.shareSize(2), 8);
        same("its worth for another", cake.worthOfShare(0, 2), 20);
    }

    private void worthOfSets() {
        CakeDivision cake = shared(Busy.FIRST, "0------0");
        same("the two ends for their owner", cake.worthOfShare(0, 0), 2);
        same("the two ends for another", cake.worthOfShare(1, 0), 18);
        same("no cell", cake.worthOfShare(1, 1), 0);
        same("one cell", cake.worth(1, 7, 7), 9);
        CakeDivision most = Cakes.of(Cakes.equal(24, 1, 9));
        same("24 cells of 9", most.worth(0, 0, 23), 216);
    }

    private void totals() {
        same("24 cells of 0", Cakes.of(Cakes.equal(24, 1, 0)).total(0), 0);
        same("24 cells of 9", Cakes.of(Cakes.equal(24, 6, 9)).total(5), 216);
        same("one cell", smallest().total(0), 1);
        CakeDivision cake = first();
        cake.give(1, 0, 7);
        same("whoever owns the cake", cake.total(0), 20);
    }

    private void fairness() {
        says("A sibling envies another sibling if the other sibling's share has a greater worth for it than its own "
            + "share.", this::greaterWorth);
        says("A sibling is satisfied if the worth of its share for it, multiplied by the number of siblings, is at "
            + "least its total.", this::atLeastItsTotal);
        says("An envy is mild if the other sibling's share contains a cell without which the first sibling would not "
            + "envy the other one.", this::mildWithoutOneCell);
        says("An envy cycle is a sequence of at least two different siblings in which each sibling envies the next "
            + "one and the last sibling envies the first one.", this::atLeastTwoDifferent);
        says("Its length is the number of its siblings.", this::lengthsOfCycles);
    }

    private void greaterWorth() {
        CakeDivision cake = shared("cake 3;sibling a 5 4 1;sibling b 1 1 1;", "01-");
        same("4 to 5", cake.envies(0, 1), false);
        cake.give(1, 2, 2);
        same("5 to 5", cake.envies(0, 1), false);
        cake.setValue(0, 1, 5);
        same("6 to 5", cake.envies(0, 1), true);
    }

    private void atLeastItsTotal() {
        CakeDivision cake = shared("cake 3;sibling a 3 3 3;sibling b 1 1 1;sibling c 0 0 0;", "01-");
        same("3 * 3 of 9", cake.isSatisfied(0), true);
        cake.setValue(0, 2, 4);
        same("3 * 3 of 10", cake.isSatisfied(0), false);
        cake.setValue(0, 2, 2);
        same("3 * 3 of 8", cake.isSatisfied(0), true);
        same("0 * 3 of 0", cake.isSatisfied(2), true);
    }

    private void mildWithoutOneCell() {
        CakeDivision cake = shared("cake 4;sibling a 3 3 3 2;sibling b 1 1 1 1;", "011-");
        same("6 to 3, 3 without the dearest", cake.isMild(0, 1), true);
        cake.setValue(0, 1, 4);
        same("7 to 3, 3 without the dearest", cake.isMild(0, 1), true);
        cake.setValue(0, 2, 4);
        same("8 to 3, 4 without the dearest", cake.isMild(0, 1), false);
        cake.release(1, 1);
        same("a share of one cell", cake.isMild(0, 1), true);
        CakeDivision last = shared("cake 4;sibling a 1 1 1 9;sibling b 1 1 1 1;", "0-11");
        same("the dearest is the last cell", last.isMild(0, 1), true);
        CakeDivision free = shared("cake 4;sibling a 9 2 2 0;sibling b 1 1 1 1;", "-11-");
        same("the dearest cell is free and does not count", free.isMild(0, 1), false);
    }

    private void atLeastTwoDifferent() {
        CakeDivision one = Cakes.of(Busy.SMALLEST);
        same("one sibling alone", one.envyCycleLength(0), NONE);
        CakeDivision oneWay = Cakes.envying("1", "");
        same("nobody envies back", oneWay.envyCycleLength(0), NONE);
        same("nobody is envied by the last", oneWay.envyCycleLength(1), NONE);
        CakeDivision two = Cakes.envying("1", "0");
        same("two", two.envyCycleLength(0), 2);
        same("two from the other", two.envyCycleLength(1), 2);
        CakeDivision tail = Cakes.envying("1", "2", "1");
        same("a way into a cycle", tail.envyCycleLength(0), NONE);
        CakeDivision open = Cakes.envying("1", "2", "3", "4", "5", "");
        same("the last of six envies nobody", open.envyCycleLength(0), NONE);
    }

    private void lengthsOfCycles() {
        String[] next = {"1", "2", "3", "4", "5"};
        for (int length = 2; length <= 6; length++) {
            String[] envied = Arrays.copyOf(next, length);
            envied[length - 1] = "0";
            for (int sibling = 0; sibling < length; sibling++) {
                same("a cycle of " + length, Cakes.envying(envied).envyCycleLength(sibling), length);
            }
        }
    }

    private void marks() {
        says("The mark of a sibling from a cell for n parts (n at least 1) is the least end cell e, not less than the "
            + "given cell, such that the worth of the cells from the given cell to e, multiplied by n, is at least the "
            + "worth of the cells from the given cell to the last cell of the cake.", this::leastEndCells);
    }

    private void leastEndCells() {
        same("2 * 2 of 4", Cakes.of("cake 3;sibling a 2 1 1;").mark(0, 0, 2), 0);
        same("2 * 2 of 5", Cakes.of("cake 3;sibling a 2 1 2;").mark(0, 0, 2), 1);
        same("2 * 2 of 3", Cakes.of("cake 3;sibling a 2 0 1;").mark(0, 0, 2), 0);
        same("the first cell has no worth", Cakes.of("cake 3;sibling a 0 1 1;").mark(0, 0, 24), 1);
        same("one part is all, but for cells without worth", Cakes.of("cake 4;sibling a 1 2 1 0;").mark(0, 0, 1), 2);
        same("no worth at all", Cakes.of("cake 4;sibling a 0 0 0 0;").mark(0, 0, 1), 0);
        same("no worth from the given cell on", Cakes.of("cake 4;sibling a 1 2 0 0;").mark(0, 2, 1), 2);
        same("cells on the left do not count", Cakes.of("cake 4;sibling a 9 1 1 1;").mark(0, 1, 3), 1);
        same("from the last cell", Cakes.of("cake 4;sibling a 9 1 1 1;").mark(0, 3, 1), 3);
        CakeDivision owned = shared("cake 3;sibling a 2 1 1;sibling b 1 1 1;", "111");
        same("whoever owns the cells", owned.mark(0, 0, 2), 0);
    }

    private void divisions() {
        says("A contiguous division cuts the cake into pieces of consecutive cells, from left to right, and gives each "
            + "sibling exactly one piece, in any order of the siblings.", this::onePieceEach);
        says("Pieces may be empty.", this::emptyPieces);
        says("Together they are the whole cake.", this::wholeCake);
    }

    private void onePieceEach() {
        CakeDivision twice = Cakes.of("cake 3;sibling a 9 0 9;sibling b 0 8 0;");
        same("the sum, a has only one of its ends", twice.greatestContiguousWelfare(), 18);
        same("the least", twice.bestLeastWelfare(), 8);
        String[] orders = {"9 0 0", "0 9 0", "0 0 9"};
        for (int a = 0; a < 3; a++) {
            for (int step = 1; step < 3; step++) {
                CakeDivision cake = Cakes.of("cake 3;sibling a " + orders[a] + ";sibling b " + orders[(a + step) % 3]
                    + ";sibling c " + orders[(a + 2 * step) % 3] + ";");
                same("the sum in order " + a + step, cake.greatestContiguousWelfare(), 27);
                same("the least in order " + a + step, cake.bestLeastWelfare(), 9);
            }
        }
    }

    private void emptyPieces() {
        CakeDivision cake = Cakes.of("cake 1;sibling a 2;sibling b 7;sibling c 3;sibling d 1;sibling e 1;sibling f 1;");
        same("the sum of one piece and five empty ones", cake.greatestContiguousWelfare(), 7);
        same("the least of them", cake.bestLeastWelfare(), 0);
        CakeDivision rest = Cakes.of("cake 3;sibling a 9 9 9;sibling b 1 1 1;");
        same("the sum if b gets nothing", rest.greatestContiguousWelfare(), 27);
        same("the least if b gets two cells", rest.bestLeastWelfare(), 2);
    }

    private void wholeCake() {
        CakeDivision one = Cakes.of("cake 4;sibling a 1 2 3 4;");
        same("one sibling gets all", one.greatestContiguousWelfare(), 10);
        same("and that is the least", one.bestLeastWelfare(), 10);
        CakeDivision six = Cakes.of(Cakes.equal(24, 6, 9));
        same("six get all", six.greatestContiguousWelfare(), 216);
        same("and four cells each", six.bestLeastWelfare(), 36);
    }

    private void undo() {
        says("The methods in the section \"changes\" are changes if they do not throw an exception.", this::changes);
        says("The latest 6 changes can be undone.", this::latest6Changes);
        says("Undoing, saving and restoring affect the whole state except the input buffer, the error code, the error "
            + "position, the output text and the saved states.", this::wholeStateExcept);
        says("A method that throws an exception changes nothing unless its description says otherwise.",
            this::refusalsChangeNothing);
        says("If several exceptions apply, the one that is listed first is thrown.", this::listedFirst);
    }

    private void changes() {
        change("give", cake -> cake.give(0, 0, 2));
        change("give to the owner", cake -> cake.give(2, 0, 0));
        change("release", cake -> cake.release(0, 2));
        change("release of a free cell", cake -> cake.release(1, 1));
        change("swapShares", cake -> cake.swapShares(0, 2));
        change("swapShares of empty shares", cake -> cake.swapShares(0, 1));
        change("setValue", cake -> cake.setValue(0, 0, 9));
        change("setValue to the same", cake -> cake.setValue(0, 0, 1));
        change("divideAndChoose", cake -> cake.divideAndChoose(0, 1));
        change("movingKnife", cake -> cake.movingKnife());
        change("roundRobin", cake -> cake.roundRobin(0));
        change("a script", cake -> Cakes.run(cake, "knife;swap ann bob;"));
        change("an empty script", cake -> Cakes.run(cake, ""));
        change("a script that stops at once", cake -> Cakes.run(cake, "swap ann ann;"));
        CakeDivision full = first();
        full.give(0, 0, 7);
        same("roundRobin without a free cell", full.roundRobin(0), 0);
        same("its undoing", full.undo(), 1);
        same("the owners after it", Cakes.owners(full), "00000000");
        CakeDivision cycle = Cakes.envying("1", "0");
        cycle.rotate(0);
        same("undo of rotate", cycle.undo(), 2);
        same("the owners after it", Cakes.owners(cycle), "01");
    }

    private void change(String name, Call call) {
        CakeDivision cake = first();
        cake.give(2, 0, 0);
        String before = Cakes.describe(cake);
        call.on(cake);
        same("undo of " + name, cake.undo(), 1);
        same("the state after undo of " + name, Cakes.describe(cake), before);
    }

    /** All numbers of changes, of undone ones and of later changes, so that the history goes round in all ways. */
    private void latest6Changes() {
        for (int changes = 0; changes <= 13; changes++) {
            for (int undone = 0; undone <= Math.min(changes, 6); undone++) {
                for (int later = 0; later <= 7; later++) {
                    undoAfter(changes, undone, later);
                }
            }
        }
    }

    /** The row of values is what the history should hold; change k sets the value of a cell to k % 10. */
    private void undoAfter(int changes, int undone, int later) {
        String call = changes + " changes, " + undone + " undone, " + later + " later: ";
        CakeDivision cake = Cakes.of("cake 1;sibling a 0;");
        ArrayDeque<Integer> earlier = new ArrayDeque<>();
        int value = 0;
        for (int change = 1; change <= changes + later; change++) {
            earlier.push(value);
            if (earlier.size() > 6) {
                earlier.removeLast();
            }
            value = change % 10;
            cake.setValue(0, 0, value);
            for (int step = 0; change == changes && step < undone; step++) {
                cake.undo();
                value = earlier.pop();
            }
        }
        same(call + "the value", cake.value(0, 0), value);
        while (!earlier.isEmpty()) {
            int due = earlier.pop();
            same(call + "undo", cake.undo(), earlier.size());
            same(call + "the value after undo", cake.value(0, 0), due);
        }
        check.throwing(call + "undo of nothing", NO_STATE, () -> cake.undo());
    }

    private void wholeStateExcept() {
        // The busy cake's history and slots come from before its error, its output text and its buffer.
        String rest = " error 3 at 12 buffer 3 output 1bob 4ann 3cid";
        String names = "ann 12344321 bob 90000009 cid 1111111";
        CakeDivision undone = Busy.cake();
        same("the state", Cakes.describe(undone), "8 cells 1000022- " + names + "7" + rest);
        undone.undo();
        undone.undo();
        undone.undo();
        same("the state after three undoings", Cakes.describe(undone), "8 cells 2222---- " + names + "1" + rest);
        undone.undo();
        same("the state after four undoings", Cakes.describe(undone), "8 cells -------- " + names + "1" + rest);
        same("restore(0) after undo", undone.restore(0), 4);
        same("the state after restore(0)", Cakes.describe(undone), "8 cells 2222---- " + names + "1" + rest);
        same("restore(1) after restore(0)", undone.restore(1), 4);
        same("the state after restore(1)", Cakes.describe(undone), "8 cells 2222---- " + names + "7" + rest);
        CakeDivision saving = Busy.cake();
        saving.save(0);
        same("the state after save(0)", Cakes.describe(saving), "8 cells 1000022- " + names + "7" + rest);
        same("the other slot after save(0)", saving.restore(1), 4);
        same("the buffer still holds the name", saving.findSibling(), 2);
    }

    private void refusalsChangeNothing() {
        refused("append", Busy::cakeWithFullBuffer, NO_STATE, cake -> cake.append(1, 2, 3, 4, 5));
        refused("truncate", NO_ARGUMENT, cake -> cake.truncate(4));
        refused("nameByte", NO_INDEX, cake -> cake.nameByte(0, 3));
        refused("value", NO_INDEX, cake -> cake.value(0, 8));
        refused("owner", NO_INDEX, cake -> cake.owner(8));
        refused("worth", NO_ARGUMENT, cake -> cake.worth(0, 4, 3));
        refused("total", NO_INDEX, cake -> cake.total(3));
        refused("worthOfShare", NO_INDEX, cake -> cake.worthOfShare(0, 3));
        refused("shareSize", NO_INDEX, cake -> cake.shareSize(3));
        refused("pieceCount", NO_INDEX, cake -> cake.pieceCount(3));
        refused("mark", NO_ARGUMENT, cake -> cake.mark(0, 0, 0));
        refused("favouriteFreeCell", NO_INDEX, cake -> cake.favouriteFreeCell(3));
        refused("envies", NO_INDEX, cake -> cake.envies(0, 3));
        refused("isMild", NO_STATE, cake -> cake.isMild(0, 1));
        refused("isSatisfied", NO_INDEX, cake -> cake.isSatisfied(3));
        refused("envyCycleLength", NO_INDEX, cake -> cake.envyCycleLength(3));
        refused("envyCycleMember", NO_ELEMENT, cake -> cake.envyCycleMember(0, 0));
        refused("wouldSwap", NO_INDEX, cake -> cake.wouldSwap(0, 3));
        refused("satisfaction", NO_INDEX, cake -> cake.satisfaction(3));
        refused("cutFor", NO_INDEX, cake -> cake.cutFor(3));
        refused("welfareByKnife", NO_INDEX, cake -> cake.welfareByKnife(3));
        refused("welfareByRobin", NO_INDEX, cake -> cake.welfareByRobin(0, 3));
        refused("give", NO_ARGUMENT, cake -> cake.give(0, 0, 8));
        refused("release", NO_ARGUMENT, cake -> cake.release(0, 8));
        refused("swapShares", NO_STATE, cake -> cake.swapShares(1, 1));
        refused("setValue", NO_ARGUMENT, cake -> cake.setValue(0, 0, 10));
        refused("divideAndChoose", NO_STATE, cake -> cake.divideAndChoose(1, 1));
        refused("roundRobin", NO_INDEX, cake -> cake.roundRobin(3));
        refused("rotate", NO_STATE, cake -> cake.rotate(0));
        refused("save", NO_INDEX, cake -> cake.save(2));
        refused("restore", NO_INDEX, cake -> cake.restore(2));
        refused("outputByte", NO_INDEX, cake -> cake.outputByte(14));
        refused("findSibling", Busy::cakeWithUnknownName, NO_ELEMENT, cake -> cake.findSibling());
        refused("restore of nothing", Busy::cakeWithoutSavedStates, NO_STATE, cake -> cake.restore(0));
        refused("undo of nothing", Busy::cakeWithoutHistory, NO_STATE, cake -> cake.undo());
    }

    private void listedFirst() {
        refused("worth, no sibling before no cells", NO_INDEX, cake -> cake.worth(3, -1, 8));
        refused("worth, no sibling before wrong order", NO_INDEX, cake -> cake.worth(-1, 4, 3));
        refused("mark, no sibling before no parts", NO_INDEX, cake -> cake.mark(3, 0, 0));
        refused("mark, no cell before no parts", NO_INDEX, cake -> cake.mark(0, 8, 25));
        refused("isMild, no sibling before no envy", NO_INDEX, cake -> cake.isMild(3, 3));
        refused("isMild, no other before no envy", NO_INDEX, cake -> cake.isMild(0, 3));
        refused("envyCycleMember, no sibling before no cycle", NO_INDEX, cake -> cake.envyCycleMember(3, 0));
        refused("envyCycleMember, no sibling before no position", NO_INDEX, cake -> cake.envyCycleMember(-1, -1));
        refused("give, no sibling before no cells", NO_INDEX, cake -> cake.give(3, -1, 8));
        refused("give, no sibling before wrong order", NO_INDEX, cake -> cake.give(-1, 4, 3));
        refused("swapShares, no sibling before the same", NO_INDEX, cake -> cake.swapShares(3, 3));
        refused("setValue, no sibling before no value", NO_INDEX, cake -> cake.setValue(3, 0, 10));
        refused("setValue, no cell before no value", NO_INDEX, cake -> cake.setValue(0, 8, -1));
        refused("divideAndChoose, no sibling before the same", NO_INDEX, cake -> cake.divideAndChoose(-1, -1));
        refused("rotate, no sibling before no cycle", NO_INDEX, cake -> cake.rotate(3));
        refused("restore, no slot before nothing saved", Busy::cakeWithoutSavedStates, NO_INDEX,
            cake -> cake.restore(2));
        refused("restore, no slot on the left before nothing saved", Busy::cakeWithoutSavedStates, NO_INDEX,
            cake -> cake.restore(-1));
    }

    private void constants() {
        says("The constants: `NONE = -1`:", () -> same("NONE", CakeDivision.NONE, -1));
        says("Returned where there is no sibling, no cell or no cycle.", () -> {
            CakeDivision cake = first();
            same("no sibling", cake.owner(0), -1);
            same("no cycle", cake.envyCycleLength(0), -1);
            cake.give(0, 0, 7);
            same("no cell", cake.favouriteFreeCell(0), -1);
        });
        plain("Ahead of the calls `append`, `truncate`, `load`, `errorCode`, `errorPosition` the interface says: ---- "
            + "input.",
            "Ahead of the calls `cellCount`, `siblingCount`, `nameByte`, `findSibling`, `value`, `owner`, `worth`, "
            + "`total`, `worthOfShare`, `shareSize`, `pieceCount`, `freeCount`, `mark`, `favouriteFreeCell` the "
            + "interface says: ---- cake and shares.",
            "Ahead of the calls `envies`, `isMild`, `envyCount`, `strongEnvyCount`, `mostEnvied`, `isSatisfied`, "
            + "`satisfiedCount`, `envyCycleLength`, `envyCycleMember`, `wouldSwap` the interface says: ---- fairness.",
            "Ahead of the calls `totalWelfare`, `leastWelfare`, `welfareProduct`, `greatestTotalWelfare`, "
            + "`greatestContiguousWelfare`, `bestLeastWelfare`, `cutCount`, `satisfaction`, `meanPieces`, "
            + "`inconsistencies` the interface says: ---- welfare.");
        says("Ahead of the calls `cutFor`, `welfareByKnife`, `welfareByRobin`, `bestFirst` the interface says: ---- "
            + "what would be (nothing changes).", this::whatWouldBe);
        plain("Ahead of the calls `give`, `release`, `swapShares`, `setValue`, `divideAndChoose`, `movingKnife`, "
            + "`roundRobin`, `rotate`, `runScript` the interface says: ---- changes.",
            "Ahead of the calls `undo`, `save`, `restore`, `writeOwners`, `outputByte` the interface says: ---- undo, "
            + "saved states, output.");
    }

    private void whatWouldBe() {
        for (Busy.Size size : Busy.SIZES) {
            CakeDivision cake = Busy.cake(size.setup());
            cake.cutFor(0);
            cake.welfareByKnife(size.siblings() - 1);
            cake.welfareByRobin(0, size.siblings() - 1);
            cake.bestFirst();
            same("what is after all four", Busy.probe(cake), Busy.probe(Busy.cake(size.setup())));
        }
    }
}

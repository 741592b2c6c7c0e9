/** Promises 45 to 53: the changes. */
final class ChangesChapter extends Chapter {
    private static final String THE_SAME = "Throws `IllegalStateException` if both are the same sibling";

    ChangesChapter(Sentences sentences, Check check) {
        super(sentences, check);
    }

    @Override
    void test() {
        give();
        release();
        swapShares();
        setValue();
        divideAndChoose();
        divideAndChooseArguments();
        movingKnife();
        roundRobin();
        rotate();
        runScript();
    }

    private void owners(CakeDivision cake, String due) {
        same("the owners", Cakes.owners(cake), due);
    }

    private void give() {
        in("Promise 45: give");
        says("Gives consecutive cells to a sibling, whoever owned them.", () -> {
            CakeDivision cake = shared(Busy.FIRST, "0011--22");
            cake.give(1, 1, 6);
            owners(cake, "01111112");
            cake.give(1, 0, 7);
            owners(cake, "11111111");
            cake.give(1, 0, 7);
            owners(cake, "11111111");
        });
        says(SIBLING, () -> {
            CakeDivision cake = greatest();
            cake.give(0, 0, 0);
            cake.give(5, 1, 1);
            owners(cake, "05" + "-".repeat(22));
        });
        says(FROM, () -> {
            CakeDivision cake = first();
            cake.give(0, 7, 7);
            owners(cake, "-------0");
            cake.give(1, 0, 0);
            owners(cake, "1------0");
        });
        says(TO, () -> {
            CakeDivision cake = first();
            cake.give(0, 3, 3);
            owners(cake, "---0----");
            cake.give(1, 6, 7);
            owners(cake, "---0--11");
            cake.give(2, 0, 7);
            owners(cake, "22222222");
            CakeDivision most = greatest();
            most.give(5, 23, 23);
            owners(most, "-".repeat(23) + "5");
            most.give(4, 0, 23);
            owners(most, "4".repeat(24));
        });
        says("Returns the worth of the share of the sibling for it afterwards.", () -> {
            CakeDivision cake = Cakes.of(Cakes.equal(24, 2, 9));
            same("one cell", cake.give(0, 0, 0), 9);
            same("the other cells too", cake.give(0, 23, 23), 18);
            same("the same cell again", cake.give(0, 0, 0), 18);
            same("all cells", cake.give(1, 0, 23), 216);
            same("a cell without worth", first().give(1, 1, 6), 0);
        });
        says(NO_SIBLING, () -> {
            refusedForNoSibling("give(sibling, 0, 0)", (cake, sibling) -> cake.give(sibling, 0, 0));
            refusedForNoSibling("give(sibling, 1, 0)", (cake, sibling) -> cake.give(sibling, 1, 0));
        });
        says(NO_CELLS, () -> {
            refusedForNoCell("give(0, cell, 0)", NO_ARGUMENT, (cake, cell) -> cake.give(0, cell, 0));
            refusedForNoCell("give(0, 0, cell)", NO_ARGUMENT, (cake, cell) -> cake.give(0, 0, cell));
            refusedForNoCell("give(0, cell, cell)", NO_ARGUMENT, (cake, cell) -> cake.give(0, cell, cell));
            refused("give(0, 1, 0)", NO_ARGUMENT, cake -> cake.give(0, 1, 0));
            refused("give(0, 7, 6)", NO_ARGUMENT, cake -> cake.give(0, 7, 6));
            refused("give(0, 7, 0)", NO_ARGUMENT, cake -> cake.give(0, 7, 0));
        });
    }

    private void release() {
        in("Promise 46: release");
        says("Makes consecutive cells free.", () -> {
            CakeDivision cake = shared(Busy.FIRST, "0011--22");
            cake.release(1, 6);
            owners(cake, "0------2");
            cake.release(0, 7);
            owners(cake, "--------");
            cake.release(0, 7);
            owners(cake, "--------");
        });
        says(FROM, () -> {
            CakeDivision cake = shared(Busy.FIRST, "00000000");
            cake.release(7, 7);
            owners(cake, "0000000-");
            cake.release(0, 0);
            owners(cake, "-000000-");
        });
        says(TO, () -> {
            CakeDivision cake = shared(Busy.FIRST, "00000000");
            cake.release(3, 3);
            owners(cake, "000-0000");
            cake.release(6, 7);
            owners(cake, "000-00--");
            CakeDivision most = shared(Busy.GREATEST, "5".repeat(24));
            most.release(23, 23);
            owners(most, "5".repeat(23) + "-");
            most.release(0, 23);
            owners(most, "-".repeat(24));
        });
        says("Returns the number of free cells afterwards.", () -> {
            CakeDivision cake = shared(Busy.GREATEST, "5".repeat(24));
            same("one", cake.release(0, 0), 1);
            same("the same one", cake.release(0, 0), 1);
            same("two", cake.release(23, 23), 2);
            same("all", cake.release(0, 23), 24);
            same("one of one", shared(Busy.SMALLEST, "0").release(0, 0), 1);
        });
        says(NO_CELLS, () -> {
            refusedForNoCell("release(cell, 0)", NO_ARGUMENT, (cake, cell) -> cake.release(cell, 0));
            refusedForNoCell("release(0, cell)", NO_ARGUMENT, (cake, cell) -> cake.release(0, cell));
            refusedForNoCell("release(cell, cell)", NO_ARGUMENT, (cake, cell) -> cake.release(cell, cell));
            refused("release(1, 0)", NO_ARGUMENT, cake -> cake.release(1, 0));
            refused("release(7, 6)", NO_ARGUMENT, cake -> cake.release(7, 6));
            refused("release(7, 0)", NO_ARGUMENT, cake -> cake.release(7, 0));
        });
    }

    private void swapShares() {
        in("Promise 47: swapShares");
        says("Exchanges the shares of two siblings.", () -> {
            CakeDivision cake = shared(Busy.FIRST, "0-101-22");
            cake.swapShares(0, 1);
            owners(cake, "1-010-22");
            cake.swapShares(0, 1);
            owners(cake, "0-101-22");
            CakeDivision empty = shared(Busy.FIRST, "00000000");
            empty.swapShares(0, 2);
            owners(empty, "22222222");
            empty.swapShares(0, 2);
            owners(empty, "00000000");
            empty.swapShares(1, 2);
            owners(empty, "00000000");
        });
        says(SIBLING, () -> {
            CakeDivision cake = shared(Busy.GREATEST, "0123455");
            cake.swapShares(0, 1);
            cake.swapShares(5, 4);
            owners(cake, "1023544" + "-".repeat(17));
        });
        says(OTHER, () -> {
            CakeDivision cake = shared(Busy.GREATEST, "0123455");
            cake.swapShares(1, 0);
            cake.swapShares(4, 5);
            owners(cake, "1023544" + "-".repeat(17));
        });
        says("Returns the number of envies afterwards.", () -> {
            same("empty shares", first().swapShares(0, 2), 0);
            same("a way back", Cakes.envying("1", "0").swapShares(0, 1), 0);
            same("a way there", Cakes.envying("", "").swapShares(1, 0), 2);
        });
        says(NO_SIBLINGS, () -> {
            refusedForNoSibling("swapShares(sibling, 0)", (cake, sibling) -> cake.swapShares(sibling, 0));
            refusedForNoSibling("swapShares(0, sibling)", (cake, sibling) -> cake.swapShares(0, sibling));
            refusedForNoSibling("swapShares twice", (cake, sibling) -> cake.swapShares(sibling, sibling));
        });
        says(THE_SAME, () -> {
            refusedFor("swapShares", new int[] {0, 1, 2}, NO_STATE, (cake, same) -> cake.swapShares(same, same));
            refused("swapShares of one alone", () -> Busy.cake(Busy.SMALLEST), NO_STATE, cake -> cake.swapShares(0, 0));
            refused("swapShares of the last of six", () -> Busy.cake(Busy.GREATEST), NO_STATE,
                cake -> cake.swapShares(5, 5));
        });
    }

    private void setValue() {
        in("Promise 48: setValue");
        plain("Sets the value of a cell for a sibling.");
        says(SIBLING, () -> {
            CakeDivision cake = greatest();
            cake.setValue(0, 0, 9);
            cake.setValue(5, 0, 8);
            same("the first of six", cake.value(0, 0), 9);
            same("the last of six", cake.value(5, 0), 8);
            same("the second stays", cake.value(1, 0), 1);
        });
        says("- `cell`: number of a cell", () -> {
            CakeDivision cake = greatest();
            cake.setValue(4, 0, 9);
            cake.setValue(4, 23, 9);
            same("the values", Cakes.values(cake, 4), "956789012345678901234569");
            same("the next sibling's values stay", Cakes.values(cake, 5), "567890123456789012345678");
        });
        says("- `value`: 0 to 9", () -> {
            CakeDivision cake = first();
            for (int value = 0; value <= 9; value++) {
                cake.setValue(0, 3, value);
                same("the value", cake.value(0, 3), value);
                same("the total", cake.total(0), 16 + value);
            }
        });
        says("Returns the previous value.", () -> {
            CakeDivision cake = first();
            same("the value of the setup", cake.setValue(1, 0, 0), 9);
            same("the least", cake.setValue(1, 0, 9), 0);
            same("the greatest", cake.setValue(1, 0, 9), 9);
            same("the same", cake.setValue(1, 0, 0), 9);
        });
        says("Throws `IndexOutOfBoundsException` if the sibling or the cell does not exist", () -> {
            refusedForNoSibling("setValue(sibling, 0, 0)", (cake, sibling) -> cake.setValue(sibling, 0, 0));
            refusedForNoCell("setValue(0, cell, 0)", NO_INDEX, (cake, cell) -> cake.setValue(0, cell, 0));
            refusedForNoSibling("setValue(sibling, 0, 10)", (cake, sibling) -> cake.setValue(sibling, 0, 10));
            refusedForNoCell("setValue(0, cell, -1)", NO_INDEX, (cake, cell) -> cake.setValue(0, cell, -1));
        });
        says("Throws `IllegalArgumentException` if value is out of range", () -> refusedFor("setValue(0, 0, value)",
            new int[] {Integer.MIN_VALUE, -1, 10, Integer.MAX_VALUE}, NO_ARGUMENT,
            (cake, value) -> cake.setValue(0, 0, value)));
    }

    private void divideAndChoose() {
        in("Promise 49: divideAndChoose");
        says("Divides the whole cake between two siblings.", () -> {
            CakeDivision cake = shared(Busy.FIRST, "222-2222");
            cake.divideAndChoose(0, 1);
            owners(cake, "11110000");
            CakeDivision one = Cakes.of(Cakes.equal(1, 2, 5));
            one.divideAndChoose(0, 1);
            owners(one, "1");
            CakeDivision most = Cakes.of(Cakes.equal(24, 6, 9));
            most.divideAndChoose(0, 5);
            owners(most, "5".repeat(12) + "0".repeat(12));
        });
        says("The cutter cuts the cake as cutFor() says.", () -> {
            same("the leftmost of equal cuts", first().divideAndChoose(1, 0), 1);
            same("before the only cell", Cakes.of(Cakes.equal(1, 2, 5)).divideAndChoose(0, 1), 0);
            same("before the last cell",
                Cakes.of("cake 3;sibling a 0 8 9;sibling b 1 1 1;").divideAndChoose(0, 1), 2);
            same("no worth", Cakes.of(Cakes.equal(24, 6, 0)).divideAndChoose(5, 4), 0);
        });
        says("The chooser gets the side with the greater worth for it, the left side in case of a tie.", () -> {
            CakeDivision cake = Cakes.of("cake 2;sibling a 1 1;sibling b 5 5;");
            cake.divideAndChoose(0, 1);
            owners(cake, "10");
            cake.setValue(1, 1, 6);
            cake.divideAndChoose(0, 1);
            owners(cake, "01");
            cake.setValue(1, 1, 4);
            cake.divideAndChoose(0, 1);
            owners(cake, "10");
        });
        says("The cutter gets the other side.", () -> {
            CakeDivision worthless = Cakes.of(Cakes.equal(3, 2, 0));
            worthless.divideAndChoose(0, 1);
            same("an empty left side for the chooser in a tie", Cakes.owners(worthless), "000");
            CakeDivision right = Cakes.of("cake 2;sibling a 0 0;sibling b 0 1;");
            right.divideAndChoose(0, 1);
            same("an empty left side for the cutter", Cakes.owners(right), "11");
            CakeDivision left = Cakes.of("cake 2;sibling a 1 1;sibling b 0 1;");
            left.divideAndChoose(0, 1);
            same("the left side for the cutter", Cakes.owners(left), "01");
        });
        says("All other siblings own nothing afterwards.", () -> {
            CakeDivision cake = shared(Busy.GREATEST, "012345".repeat(4));
            cake.divideAndChoose(2, 3);
            for (int sibling : new int[] {0, 1, 4, 5}) {
                same("the share of another", cake.shareSize(sibling), 0);
            }
            same("all cells are owned", cake.freeCount(), 0);
        });
    }

    private void divideAndChooseArguments() {
        says("- `cutter`: number of a sibling", () -> {
            same("the first", first().divideAndChoose(0, 2), 4);
            same("the last", first().divideAndChoose(2, 1), 4);
            CakeDivision six = Cakes.of(Cakes.equal(2, 6, 1));
            six.divideAndChoose(5, 0);
            owners(six, "05");
        });
        says("- `chooser`: number of a sibling", () -> {
            CakeDivision six = Cakes.of(Cakes.equal(2, 6, 1));
            six.divideAndChoose(0, 5);
            owners(six, "50");
            six.divideAndChoose(1, 0);
            owners(six, "01");
        });
        says("Returns the number of cells to the left of the cut.", () -> {
            same("none", Cakes.of(Cakes.equal(1, 2, 9)).divideAndChoose(0, 1), 0);
            same("12 of 24", Cakes.of(Cakes.equal(24, 2, 9)).divideAndChoose(0, 1), 12);
            same("all but one", Cakes.of("cake 24;sibling a" + " 0".repeat(22) + " 8 9;sibling b" + " 1".repeat(24)
                + ";").divideAndChoose(0, 1), 23);
        });
        says(NO_SIBLINGS, () -> {
            refusedForNoSibling("divideAndChoose(sibling, 0)", (cake, sibling) -> cake.divideAndChoose(sibling, 0));
            refusedForNoSibling("divideAndChoose(0, sibling)", (cake, sibling) -> cake.divideAndChoose(0, sibling));
            refusedForNoSibling("both", (cake, sibling) -> cake.divideAndChoose(sibling, sibling));
        });
        says(THE_SAME, () -> {
            refusedFor("divideAndChoose", new int[] {0, 1, 2}, NO_STATE,
                (cake, same) -> cake.divideAndChoose(same, same));
            refused("divideAndChoose of one alone", () -> Busy.cake(Busy.SMALLEST), NO_STATE,
                cake -> cake.divideAndChoose(0, 0));
            refused("divideAndChoose of the last of six", () -> Busy.cake(Busy.GREATEST), NO_STATE,
                cake -> cake.divideAndChoose(5, 5));
        });
    }

    private void movingKnife() {
        in("Promise 50: movingKnife");
        plain("Divides the whole cake by a moving knife.");
        says("First all cells are free.", () -> {
            for (String owners : new String[] {"--------", "00000000", "22222222", "01201201", "2------1"}) {
                CakeDivision cake = shared(Busy.FIRST, owners);
                cake.movingKnife();
                owners(cake, "10000222");
            }
        });
        says("Then, as long as at least two siblings have no piece yet and cells are left on the right, each of these "
            + "siblings determines its mark from the first cell that is left, for as many parts as there are siblings "
            + "without a piece.", () -> {
            same("equal parts", afterKnife(Cakes.equal(24, 6, 9)), BLOCKS);
            same("as many cells as siblings", afterKnife(Cakes.equal(6, 6, 9)), "012345");
            same("too few cells", afterKnife(Cakes.equal(5, 6, 9)), "01234");
            same("one cell", afterKnife(Cakes.equal(1, 6, 9)), "0");
            same("the first piece is the whole cake", afterKnife("cake 3;sibling a 0 0 5;sibling b 0 0 5;"), "000");
            same("the second piece goes to the end",
                afterKnife("cake 3;sibling a 1 0 0;sibling b 0 0 5;sibling c 0 0 5;"), "011");
            // Of the ten that are left, half goes to b: a third of them would end one cell earlier.
            same("three parts, then two", afterKnife("cake 6;sibling a 9 0 0 0 0 0;sibling b 0 4 1 1 2 2;"
                + "sibling c 0 0 0 0 0 9;"), "011222");
            same("what was cut off does not count",
                afterKnife("cake 4;sibling a 9 0 0 0;sibling b 9 1 1 1;sibling c 9 0 0 9;"), "0112");
        });
        says("The sibling with the least mark (the lowest number wins a tie) gets the cells up to its mark.", () -> {
            same("the last has the least mark", afterKnife("cake 3;sibling a 0 1 1;sibling b 0 1 1;sibling c 9 0 0;"),
                "201");
            same("all alike", afterKnife(Cakes.equal(3, 3, 1)), "012");
            same("no worth at all", afterKnife(Cakes.equal(3, 3, 0)), "012");
            same("the last two tie", afterKnife("cake 3;sibling a 0 0 9;sibling b 1 1 1;sibling c 1 1 1;"), "120");
            same("two cells up to the mark", afterKnife("cake 4;sibling a 1 1 1 1;sibling b 1 1 1 1;"), "0011");
        });
        says("When only one sibling has no piece yet, it gets all cells that are left.", () -> {
            same("one alone", afterKnife(Cakes.equal(24, 1, 0)), "0".repeat(24));
            same("one cell for one alone", afterKnife(Busy.SMALLEST), "0");
            same("all but the first cell", afterKnife("cake 24;sibling a 1" + " 0".repeat(23) + ";sibling b 0"
                + " 1".repeat(23) + ";"), "0" + "1".repeat(23));
            same("cells without worth for it", afterKnife("cake 3;sibling a 0 0 0;sibling b 1 0 0;"), "011");
            same("cells behind its own mark", afterKnife("cake 3;sibling a 0 1 0;sibling b 1 0 0;"), "100");
            same("no cell is left for it", afterKnife("cake 2;sibling a 0 1;sibling b 0 1;"), "00");
        });
        says("Returns the number of satisfied siblings afterwards.", () -> {
            same("all three", first().movingKnife(), 3);
            same("all six", Cakes.of(Cakes.equal(24, 6, 9)).movingKnife(), 6);
            same("one of six", Cakes.of(Cakes.equal(1, 6, 9)).movingKnife(), 1);
            same("one of one", smallest().movingKnife(), 1);
            same("five of six", Cakes.of(Cakes.equal(5, 6, 9)).movingKnife(), 5);
            same("those who value nothing", Cakes.of(Cakes.equal(1, 6, 0)).movingKnife(), 6);
        });
    }

    private static String afterKnife(String setup) {
        CakeDivision cake = Cakes.of(setup);
        cake.movingKnife();
        return Cakes.owners(cake);
    }

    private void roundRobin() {
        in("Promise 51: roundRobin");
        says("Divides the free cells by round robin.", () -> {
            CakeDivision cake = shared(Busy.FIRST, "22----22");
            same("four cells", cake.roundRobin(0), 4);
            owners(cake, "22102022");
            same("no cell", cake.roundRobin(0), 0);
            owners(cake, "22102022");
        });
        says("Starting with the first sibling and continuing by ascending numbers, cyclically, each sibling takes its "
            + "favourite free cell, until no cell is free.", () -> {
            same("from the first of six", afterRobin(Cakes.equal(8, 6, 1), 0), "01234501");
            same("from the one between", afterRobin(Cakes.equal(8, 6, 1), 3), "34501234");
            same("from the last", afterRobin(Cakes.equal(8, 6, 1), 5), "50123450");
            same("four times round", afterRobin(Cakes.equal(24, 6, 0), 5), "501234".repeat(4));
            same("fewer cells than siblings", afterRobin(Cakes.equal(2, 6, 1), 5), "50");
            same("one alone", afterRobin(Cakes.equal(24, 1, 1), 0), "0".repeat(24));
            same("favourites on the right", afterRobin("cake 4;sibling a 1 2 3 4;sibling b 1 2 3 4;", 1), "0101");
            same("ties go to the left", afterRobin("cake 4;sibling a 1 2 2 1;sibling b 9 9 9 9;", 0), "1001");
        });
        says("- `first`: number of the sibling who picks first", () -> {
            same("the first", afterRobin(Busy.SMALLEST, 0), "0");
            same("the last of three", afterRobin(Cakes.equal(1, 3, 1), 2), "2");
            same("the last of six", afterRobin(Cakes.equal(1, 6, 1), 5), "5");
        });
        says("Returns the number of cells that were taken.", () -> {
            same("none", shared(Busy.FIRST, "00000000").roundRobin(2), 0);
            same("one", shared(Busy.FIRST, "0000-000").roundRobin(2), 1);
            same("all of eight", first().roundRobin(2), 8);
            same("all of 24", greatest().roundRobin(5), 24);
            same("one of one", smallest().roundRobin(0), 1);
        });
        says(NO_SIBLING, () -> refusedForNoSibling("roundRobin", (cake, first) -> cake.roundRobin(first)));
    }

    private static String afterRobin(String setup, int first) {
        CakeDivision cake = Cakes.of(setup);
        cake.roundRobin(first);
        return Cakes.owners(cake);
    }

    private void rotate() {
        in("Promise 52: rotate");
        says("Rotates the shares along the shortest envy cycle through a sibling (see envyCycleMember()): each member "
            + "gets the previous share of the next member, and the last member gets the previous share of the given "
            + "sibling.", () -> {
            rotates(0, "10", "1", "0");
            rotates(0, "102", "1", "0", "");
            rotates(0, "201", "1", "2", "0");
            rotates(2, "201", "1", "2", "0");
            rotates(0, "120", "2", "0", "1");
            rotates(0, "501234", "1", "2", "3", "4", "5", "0");
            rotates(0, "210", "12", "2", "0");
            rotates(0, "3021", "12", "3", "3", "0");
            CakeDivision cake = shared(
                "cake 6;sibling a 1 0 2 0 2 0;sibling b 2 0 1 0 0 0;sibling c 1 1 1 1 1 1;", "0-1212");
            cake.rotate(0);
            same("free cells and other shares stay", Cakes.owners(cake), "1-0202");
            longAndShortCycles();
        });
        says(SIBLING, () -> {
            rotates(0, "512340", "5", "", "", "", "", "0");
            rotates(5, "512340", "5", "", "", "", "", "0");
        });
        says("Returns the length of the cycle.", () -> {
            same("the least", Cakes.envying("1", "0").rotate(1), 2);
            same("the greatest", Cakes.envying("1", "2", "3", "4", "5", "0").rotate(5), 6);
        });
        says(NO_SIBLING, () -> refusedForNoSibling("rotate", (cake, sibling) -> cake.rotate(sibling)));
        says("Throws `IllegalStateException` if there is no envy cycle that contains the sibling", () -> {
            refused("rotate without envy", NO_STATE, cake -> cake.rotate(0));
            refused("rotate of one alone", () -> Busy.cake(Busy.SMALLEST), NO_STATE, cake -> cake.rotate(0));
            refused("rotate before a cycle", () -> Cakes.envying("1", "2", "1"), NO_STATE, cake -> cake.rotate(0));
            refused("rotate behind a cycle", () -> Cakes.envying("1", "02", ""), NO_STATE, cake -> cake.rotate(2));
            refused("rotate beside a cycle", () -> Cakes.envying("1", "0", ""), NO_STATE, cake -> cake.rotate(2));
        });
    }

    private void rotates(int sibling, String owners, String... envied) {
        CakeDivision cake = Cakes.envying(envied);
        cake.rotate(sibling);
        owners(cake, owners);
    }

    /** Sibling i values the four cells of sibling i + 1 most, so that all six are one cycle. */
    private void longAndShortCycles() {
        StringBuilder setup = new StringBuilder("cake 24;");
        for (int sibling = 0; sibling < 6; sibling++) {
            setup.append("sibling ").append((char) ('a' + sibling));
            for (int cell = 0; cell < 24; cell++) {
                setup.append(cell / 4 == (sibling + 1) % 6 ? " 9" : cell / 4 == sibling ? " 1" : " 0");
            }
            setup.append(';');
        }
        CakeDivision all = shared(setup.toString(), BLOCKS);
        same("all six and all cells", all.rotate(2), 6);
        owners(all, "555500001111222233334444");
        CakeDivision free = shared(setup.toString(), "0000111122223333444-555-");
        same("all six and two free cells", free.rotate(0), 6);
        owners(free, "5555000011112222333-444-");
        CakeDivision shorter = Cakes.envying("3", "2", "1", "4", "5", "0");
        same("a cycle of four", shorter.rotate(0), 4);
        owners(shorter, "512034");
        same("a cycle of two after it", shorter.rotate(1), 2);
        owners(shorter, "521034");
    }

    private void runScript() {
        in("Promise 53: runScript");
        says("Parses the input buffer as a script and empties the buffer, also if the text has an error.", () -> {
            emptiedBy("", true);
            emptiedBy("knife;", true);
            emptiedBy("swap ann ann;", true);
            emptiedBy("knife;" + " ".repeat(594), true);
            emptiedBy("knife", false);
            emptiedBy("?".repeat(600), false);
        });
        says("A valid script is executed and counts as a single change, even if no command was executed.", () -> {
            singleChange("");
            singleChange(" \n");
            singleChange("swap ann ann;");
            singleChange("knife;");
            singleChange("give ann 0 0;give bob 1 1;give cid 2 2;value ann 0 9;robin ann;divide bob cid;knife;");
            singleChange("give ann 0 7;".repeat(30));
            singleChange("give ann 0 0;give ann 8 8;give ann 1 1;");
            CakeDivision seven = first();
            for (int cell = 0; cell < 7; cell++) {
                Cakes.run(seven, "give ann " + cell + " " + cell + ";");
            }
            for (int left = 5; left >= 0; left--) {
                same("undo of a script", seven.undo(), left);
            }
            owners(seven, "0-------");
            check.throwing("undo of the seventh script", NO_STATE, () -> seven.undo());
        });
        says("Returns the number of executed commands.", () -> {
            same("none", Cakes.run(first(), ""), 0);
            same("none before the first that stops", Cakes.run(first(), "swap ann ann;knife;"), 0);
            same("one", Cakes.run(first(), "knife;"), 1);
            same("one before the second that stops", Cakes.run(first(), "knife;swap ann ann;knife;"), 1);
            same("29 before the last that stops", Cakes.run(first(), "knife;".repeat(29) + "swap ann ann;"), 29);
            same("30", Cakes.run(first(), "knife;".repeat(30)), 30);
        });
        says("Throws `IllegalArgumentException` if the text has an error;", () -> {
            scriptFails("knife", 1, 5);
            scriptFails("robin dan;", 3, 6);
            scriptFails("knife;".repeat(31), 4, 180);
            runs("knife;".repeat(30));
        });
        says("in this case only the buffer, the error code and the error position change", () -> {
            for (String text : new String[] {"?", "knife", "knife;value ann 0 9;give dan 0 0;", "free 0 7",
                "knife;".repeat(31), "value ann 0 9;".repeat(30) + "rotate"}) {
                CakeDivision cake = Busy.cake();
                cake.truncate(0);
                Cakes.type(cake, text);
                check.throwing("runScript of '" + text + "'", NO_ARGUMENT, () -> cake.runScript());
                same("the code changes", cake.errorCode() > 0, true);
                same("the state after '" + text + "'", Busy.probeState(cake), Busy.probeState(Busy.cake()));
            }
        });
    }

    private void emptiedBy(String text, boolean isValid) {
        CakeDivision cake = first();
        Cakes.type(cake, text);
        check.throwing("runScript of '" + text + "'", isValid ? null : NO_ARGUMENT, () -> cake.runScript());
        same("the next append", cake.append(0, 0, 0, 0, 0), 20);
    }

    private void singleChange(String script) {
        CakeDivision cake = first();
        cake.give(2, 3, 4);
        String before = Cakes.describe(cake);
        Cakes.run(cake, script);
        same("undo of '" + script + "'", cake.undo(), 1);
        same("the state before it", Cakes.describe(cake), before);
        same("undo of the change before it", cake.undo(), 0);
    }
}

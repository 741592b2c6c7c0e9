/** Promises 7 to 9 and 11 to 20: the cake and its shares. */
final class CakeChapter extends Chapter {
    CakeChapter(Sentences sentences, Check check) {
        super(sentences, check);
    }

    @Override
    void test() {
        counts();
        nameByte();
        value();
        owner();
        worth();
        total();
        worthOfShare();
        shareSize();
        pieceCount();
        freeCount();
        mark();
        favouriteFreeCell();
    }

    private void counts() {
        in("Promise 7: cellCount");
        plain("Returns the number of cells.");
        says("Returns 1 to 24.", () -> {
            for (int cells : new int[] {1, 2, 23, 24}) {
                same("cellCount", Cakes.of(Cakes.equal(cells, 1, 0)).cellCount(), cells);
            }
            same("after a refused setup of 25", afterRefused(Cakes.equal(25, 1, 0)).cellCount(), 8);
            same("after a refused setup of 0", afterRefused("cake 0;sibling a;").cellCount(), 8);
        });
        in("Promise 8: siblingCount");
        plain("Returns the number of siblings.");
        says("Returns 1 to 6.", () -> {
            for (int siblings : new int[] {1, 2, 5, 6}) {
                same("siblingCount", Cakes.of(Cakes.equal(1, siblings, 0)).siblingCount(), siblings);
            }
            same("after a refused setup of 7", afterRefused(Cakes.equal(1, 7, 0)).siblingCount(), 3);
            same("after a refused setup of 0", afterRefused("cake 1;").siblingCount(), 3);
        });
    }

    private CakeDivision afterRefused(String setup) {
        CakeDivision cake = first();
        Cakes.type(cake, setup);
        check.throwing("load", NO_ARGUMENT, () -> cake.load());
        return cake;
    }

    private void nameByte() {
        in("Promise 9: nameByte");
        plain("Returns a letter of the name of a sibling.");
        CakeDivision cake = Cakes.of("cake 1;sibling a 1;sibling abcxyz 1;sibling zz 1;sibling b 1;sibling c 1;"
            + "sibling lmnopq 1;");
        says(SIBLING, () -> {
            same("the first", cake.nameByte(0, 0), 'a');
            same("the last of six", cake.nameByte(5, 0), 'l');
            same("the only one", smallest().nameByte(0, 0), 'a');
            same("the last of three", first().nameByte(2, 0), 'c');
        });
        says("- `index`: position in the name, from 0", () -> {
            same("the first of six", cake.nameByte(1, 0), 'a');
            same("the last of six", cake.nameByte(1, 5), 'z');
            same("the last of six, for the last sibling", cake.nameByte(5, 5), 'q');
            same("the last of two", cake.nameByte(2, 1), 'z');
            same("the only one", cake.nameByte(0, 0), 'a');
        });
        says("Returns the letter as a byte.", () -> {
            same("the first letter", cake.nameByte(0, 0), 97);
            same("the last letter", cake.nameByte(2, 0), 122);
        });
        says("Throws `IndexOutOfBoundsException` if the sibling does not exist, or its name has no such letter", () -> {
            refusedForNoSibling("nameByte(sibling, 0)", (object, sibling) -> object.nameByte(sibling, 0));
            refusedForNoSibling("nameByte(sibling, 9)", (object, sibling) -> object.nameByte(sibling, 9));
            refusedFor("nameByte(2, index)", new int[] {Integer.MIN_VALUE, -1, 3, 5, 6, Integer.MAX_VALUE}, NO_INDEX,
                (object, index) -> object.nameByte(2, index));
            for (int index : new int[] {Integer.MIN_VALUE, -1, 6, 7, Integer.MAX_VALUE}) {
                check.throwing("six letters", NO_INDEX, () -> cake.nameByte(1, index));
            }
            check.throwing("one letter", NO_INDEX, () -> cake.nameByte(0, 1));
            check.throwing("one letter after a longer name", NO_INDEX, () -> cake.nameByte(3, 1));
            CakeDivision shorter = Cakes.of("cake 1;sibling abcdef 1;");
            Cakes.load(shorter, "cake 1;sibling x 1;");
            check.throwing("one letter after a longer one", NO_INDEX, () -> shorter.nameByte(0, 1));
        });
    }

    private void value() {
        in("Promise 11: value");
        plain("Returns the value of a cell for a sibling.");
        says(SIBLING, () -> {
            same("the first of three", first().value(0, 0), 1);
            same("the last of three", first().value(2, 0), 1);
            same("the only one", smallest().value(0, 0), 1);
            same("the first of six", greatest().value(0, 0), 0);
            same("the last of six", greatest().value(5, 0), 5);
        });
        says("- `cell`: number of a cell", () -> {
            same("the first of eight", first().value(1, 0), 9);
            same("the second of eight", first().value(1, 1), 0);
            same("the last of eight", first().value(1, 7), 9);
            same("the last of 24", greatest().value(0, 23), 3);
            same("the last of 24 for the last", greatest().value(5, 23), 8);
        });
        says("Returns 0 to 9.", () -> {
            CakeDivision cake = Cakes.of("cake 2;sibling a 0 9;");
            same("the least", cake.value(0, 0), 0);
            same("the greatest", cake.value(0, 1), 9);
        });
        says("Throws `IndexOutOfBoundsException` if the sibling or the cell does not exist", () -> {
            refusedForNoSibling("value(sibling, 0)", (cake, sibling) -> cake.value(sibling, 0));
            refusedForNoCell("value(0, cell)", NO_INDEX, (cake, cell) -> cake.value(0, cell));
            refusedForNoSibling("value(sibling, 24)", (cake, sibling) -> cake.value(sibling, 24));
        });
    }

    private void owner() {
        in("Promise 12: owner");
        plain("Returns the owner of a cell.");
        says("- `cell`: number of a cell", () -> {
            CakeDivision cake = shared(Busy.FIRST, "0-----12");
            same("the first of eight", cake.owner(0), 0);
            same("the last but one", cake.owner(6), 1);
            same("the last of eight", cake.owner(7), 2);
            same("the last of 24", shared(Busy.GREATEST, "-".repeat(23) + "4").owner(23), 4);
            same("the only one", shared(Busy.SMALLEST, "0").owner(0), 0);
        });
        says("Returns the number of the sibling;", () -> {
            CakeDivision cake = shared(Busy.GREATEST, "5----0");
            same("the last sibling", cake.owner(0), 5);
            same("the first sibling", cake.owner(5), 0);
        });
        says("NONE if the cell is free.", () -> {
            CakeDivision cake = first();
            same("the first cell", cake.owner(0), NONE);
            same("the last cell", cake.owner(7), NONE);
            cake.give(0, 0, 7);
            cake.release(0, 0);
            same("a cell that was released", cake.owner(0), NONE);
        });
        says("Throws `IndexOutOfBoundsException` if the cell does not exist",
            () -> refusedForNoCell("owner", NO_INDEX, (cake, cell) -> cake.owner(cell)));
    }

    private void worth() {
        in("Promise 13: worth");
        plain("Returns the worth of consecutive cells for a sibling.");
        says(SIBLING, () -> {
            same("the first of three", first().worth(0, 0, 1), 3);
            same("the last of three", first().worth(2, 0, 1), 2);
            same("the last of six", greatest().worth(5, 0, 1), 11);
        });
        says("- `from`: first cell", () -> {
            same("from the first", first().worth(0, 0, 7), 20);
            same("from the second", first().worth(0, 1, 7), 19);
            same("from the last", first().worth(0, 7, 7), 1);
            same("from the last of 24", greatest().worth(5, 23, 23), 8);
        });
        says("- `to`: last cell, not less than from", () -> {
            same("to the first", first().worth(1, 0, 0), 9);
            same("to the same", first().worth(0, 3, 3), 4);
            same("to the next", first().worth(0, 3, 4), 8);
            same("to the last", first().worth(1, 0, 7), 18);
            same("to the last but one", first().worth(1, 0, 6), 9);
        });
        says("Returns the worth of the cells from from to to.", () -> {
            CakeDivision cake = greatest();
            for (int from = 0; from < 24; from++) {
                for (int to = from; to < 24; to += 5) {
                    same("worth(3, " + from + ", " + to + ")", cake.worth(3, from, to), dueInGreatest(3, from, to));
                }
            }
            same("the greatest", Cakes.of(Cakes.equal(24, 1, 9)).worth(0, 0, 23), 216);
            same("the least", Cakes.of(Cakes.equal(24, 1, 0)).worth(0, 0, 23), 0);
        });
        says(NO_SIBLING, () -> {
            refusedForNoSibling("worth(sibling, 0, 0)", (cake, sibling) -> cake.worth(sibling, 0, 0));
            refusedForNoSibling("worth(sibling, 1, 0)", (cake, sibling) -> cake.worth(sibling, 1, 0));
        });
        says(NO_CELLS, () -> {
            refusedForNoCell("worth(0, cell, 0)", NO_ARGUMENT, (cake, cell) -> cake.worth(0, cell, 0));
            refusedForNoCell("worth(0, 0, cell)", NO_ARGUMENT, (cake, cell) -> cake.worth(0, 0, cell));
            refusedForNoCell("worth(0, cell, cell)", NO_ARGUMENT, (cake, cell) -> cake.worth(0, cell, cell));
            refused("worth(0, 1, 0)", NO_ARGUMENT, cake -> cake.worth(0, 1, 0));
            refused("worth(0, 7, 6)", NO_ARGUMENT, cake -> cake.worth(0, 7, 6));
            refused("worth(0, 7, 0)", NO_ARGUMENT, cake -> cake.worth(0, 7, 0));
        });
    }

    private void total() {
        in("Promise 14: total");
        plain("Returns the total of a sibling.");
        says(SIBLING, () -> {
            same("the first of three", first().total(0), 20);
            same("the last of three", first().total(2), 8);
            same("the only one", smallest().total(0), 1);
            same("the last of six", greatest().total(5), dueInGreatest(5, 0, 23));
        });
        says("Returns the worth of the whole cake.", () -> {
            same("the least", Cakes.of(Cakes.equal(1, 1, 0)).total(0), 0);
            same("the greatest", Cakes.of(Cakes.equal(24, 6, 9)).total(0), 216);
            same("both ends", first().total(1), 18);
        });
        says(NO_SIBLING, () -> refusedForNoSibling("total", (cake, sibling) -> cake.total(sibling)));
    }

    private void worthOfShare() {
        in("Promise 15: worthOfShare");
        plain("Returns the worth of a share for a sibling.");
        CakeDivision cake = shared(Busy.FIRST, "0-----12");
        says("- `sibling`: number of the sibling who values", () -> {
            same("the first", cake.worthOfShare(0, 2), 1);
            same("the last", cake.worthOfShare(2, 0), 1);
            same("the one between", cake.worthOfShare(1, 2), 9);
            same("the last of six", shared(Busy.GREATEST, "5-").worthOfShare(5, 5), 5);
        });
        says("- `other`: number of the sibling whose share is valued, perhaps the same", () -> {
            same("the first", cake.worthOfShare(1, 0), 9);
            same("the last", cake.worthOfShare(0, 2), 1);
            same("the same", cake.worthOfShare(0, 0), 1);
            same("the same, the last", cake.worthOfShare(2, 2), 1);
        });
        says("Returns the worth.", () -> {
            same("of an empty share", first().worthOfShare(0, 1), 0);
            same("of the whole cake", shared(Cakes.equal(2, 2, 9), "11").worthOfShare(0, 1), 18);
        });
        says(NO_SIBLINGS, () -> {
            refusedForNoSibling("worthOfShare(sibling, 0)", (object, sibling) -> object.worthOfShare(sibling, 0));
            refusedForNoSibling("worthOfShare(0, sibling)", (object, sibling) -> object.worthOfShare(0, sibling));
            refusedForNoSibling("both", (object, sibling) -> object.worthOfShare(sibling, sibling));
        });
    }

    private void shareSize() {
        in("Promise 16: shareSize");
        plain("Counts the cells of a share.");
        says(SIBLING, () -> {
            CakeDivision cake = shared(Busy.FIRST, "0011222-");
            same("the first", cake.shareSize(0), 2);
            same("the last", cake.shareSize(2), 3);
            same("the last of six", shared(Busy.GREATEST, "5-5").shareSize(5), 2);
        });
        says("Returns the number of cells that the sibling owns.", () -> {
            same("none", first().shareSize(0), 0);
            same("none of one", smallest().shareSize(0), 0);
            same("one of one", shared(Busy.SMALLEST, "0").shareSize(0), 1);
            CakeDivision all = greatest();
            all.give(5, 0, 23);
            same("all of 24", all.shareSize(5), 24);
            same("none of 24", all.shareSize(0), 0);
        });
        says(NO_SIBLING, () -> refusedForNoSibling("shareSize", (cake, sibling) -> cake.shareSize(sibling)));
    }

    private void pieceCount() {
        in("Promise 17: pieceCount");
        plain("Counts the pieces of a share.");
        says("A piece is a maximal run of consecutive cells.", () -> {
            CakeDivision cake = shared(Busy.FIRST, "00-0110-");
            same("three runs", cake.pieceCount(0), 3);
            same("one run", cake.pieceCount(1), 1);
            Cakes.share(cake, "0000000-");
            same("runs that were joined", cake.pieceCount(0), 1);
            Cakes.share(cake, "0------0");
            same("both ends are no neighbours", cake.pieceCount(0), 2);
        });
        says(SIBLING, () -> {
            CakeDivision cake = shared(Busy.GREATEST, "0-5-5");
            same("the first", cake.pieceCount(0), 1);
            same("the last", cake.pieceCount(5), 2);
        });
        says("Returns the number of pieces;", () -> {
            same("one of one", shared(Busy.SMALLEST, "0").pieceCount(0), 1);
            same("12 of 24", shared(Busy.GREATEST, "0-".repeat(12)).pieceCount(0), 12);
            same("12 of 24, with the last", shared(Busy.GREATEST, "15".repeat(12)).pieceCount(5), 12);
            same("the last cell", shared(Busy.FIRST, "-------2").pieceCount(2), 1);
            same("the first cell", shared(Busy.FIRST, "2-------").pieceCount(2), 1);
            same("the whole cake", shared(Busy.FIRST, "22222222").pieceCount(2), 1);
        });
        says("0 for an empty share.", () -> {
            same("free cells", first().pieceCount(0), 0);
            same("another's cells", shared(Busy.FIRST, "11111111").pieceCount(0), 0);
        });
        says(NO_SIBLING, () -> refusedForNoSibling("pieceCount", (cake, sibling) -> cake.pieceCount(sibling)));
    }

    private void freeCount() {
        in("Promise 18: freeCount");
        plain("Counts the free cells.");
        says("Returns the number of free cells.", () -> {
            same("all of one", smallest().freeCount(), 1);
            same("none of one", shared(Busy.SMALLEST, "0").freeCount(), 0);
            same("all of 24", greatest().freeCount(), 24);
            same("one of eight", shared(Busy.FIRST, "0000000-").freeCount(), 1);
            same("one less than eight", shared(Busy.FIRST, "0-------").freeCount(), 7);
            CakeDivision all = greatest();
            all.give(5, 0, 23);
            same("none of 24", all.freeCount(), 0);
        });
    }

    private void mark() {
        in("Promise 19: mark");
        plain("Returns a mark.");
        says(SIBLING, () -> {
            same("the first", first().mark(0, 0, 2), 3);
            same("the last", first().mark(2, 0, 4), 1);
            same("the last of six", greatest().mark(5, 23, 1), 23);
        });
        says("- `cell`: number of a cell", () -> {
            same("the first", first().mark(1, 0, 2), 0);
            same("the second", first().mark(1, 1, 2), 7);
            same("the last", first().mark(1, 7, 24), 7);
            same("the last of one", smallest().mark(0, 0, 1), 0);
        });
        says("- `parts`: 1 to 24", () -> {
            same("1", first().mark(2, 0, 1), 7);
            same("2", first().mark(2, 0, 2), 3);
            same("23", first().mark(2, 0, 23), 0);
            same("24", first().mark(2, 0, 24), 0);
            CakeDivision cake = Cakes.of(Cakes.equal(24, 1, 1));
            same("24 of 24 equal cells", cake.mark(0, 0, 24), 0);
            same("23 of 24 equal cells", cake.mark(0, 0, 23), 1);
            same("12 of 24 equal cells", cake.mark(0, 0, 12), 1);
            cake.setValue(0, 23, 2);
            same("24 of 25", cake.mark(0, 0, 24), 1);
        });
        says("Returns the end cell.", () -> {
            same("the given cell", first().mark(1, 0, 24), 0);
            same("the last cell", first().mark(0, 0, 1), 7);
            same("the last of 24", Cakes.of(Cakes.equal(24, 1, 9)).mark(0, 0, 1), 23);
        });
        says("Throws `IndexOutOfBoundsException` if the sibling or the cell does not exist", () -> {
            refusedForNoSibling("mark(sibling, 0, 1)", (cake, sibling) -> cake.mark(sibling, 0, 1));
            refusedForNoCell("mark(0, cell, 1)", NO_INDEX, (cake, cell) -> cake.mark(0, cell, 1));
            refusedForNoSibling("mark(sibling, 0, 0)", (cake, sibling) -> cake.mark(sibling, 0, 0));
            refusedForNoCell("mark(0, cell, 25)", NO_INDEX, (cake, cell) -> cake.mark(0, cell, 25));
        });
        says("Throws `IllegalArgumentException` if parts is out of range", () -> refusedFor("mark(0, 0, parts)",
            new int[] {Integer.MIN_VALUE, -1, 0, 25, Integer.MAX_VALUE}, NO_ARGUMENT,
            (cake, parts) -> cake.mark(0, 0, parts)));
    }

    private void favouriteFreeCell() {
        in("Promise 20: favouriteFreeCell");
        plain("Returns the free cell that a sibling values most.");
        says(SIBLING, () -> {
            same("the first", first().favouriteFreeCell(0), 3);
            same("the last", first().favouriteFreeCell(2), 0);
            same("the last of six", greatest().favouriteFreeCell(5), 4);
        });
        says("Returns the number of the cell;", () -> {
            same("the first cell", first().favouriteFreeCell(1), 0);
            same("the last cell", shared(Busy.FIRST, "2-------").favouriteFreeCell(1), 7);
            same("the only cell", smallest().favouriteFreeCell(0), 0);
            same("a cell without worth", shared(Busy.FIRST, "2------2").favouriteFreeCell(1), 1);
            same("the last cell, without worth", shared(Busy.FIRST, "0000000-").favouriteFreeCell(2), 7);
            same("the last of 24", shared(Busy.GREATEST, "0".repeat(23)).favouriteFreeCell(0), 23);
        });
        says("the lowest number wins a tie;", () -> {
            same("the first of two", first().favouriteFreeCell(1), 0);
            same("the first of eight", first().favouriteFreeCell(2), 0);
            same("the first of those that are free", shared(Busy.FIRST, "000-0---").favouriteFreeCell(2), 3);
            same("the first without worth", Cakes.of(Cakes.equal(24, 1, 0)).favouriteFreeCell(0), 0);
        });
        says("NONE if no cell is free.", () -> {
            same("one cell", shared(Busy.SMALLEST, "0").favouriteFreeCell(0), NONE);
            same("the owner of all", shared(Busy.FIRST, "00000000").favouriteFreeCell(0), NONE);
            same("another one", shared(Busy.FIRST, "00000000").favouriteFreeCell(2), NONE);
        });
        says(NO_SIBLING, () -> refusedForNoSibling("favouriteFreeCell",
            (cake, sibling) -> cake.favouriteFreeCell(sibling)));
    }
}

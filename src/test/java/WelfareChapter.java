/** Promises 31 to 44: welfare, and what would be. */
final class WelfareChapter extends Chapter {
    WelfareChapter(Sentences sentences, Check check) {
        super(sentences, check);
    }

    @Override
    void test() {
        totalWelfare();
        leastWelfare();
        welfareProduct();
        greatestTotalWelfare();
        greatestContiguousWelfare();
        bestLeastWelfare();
        cutCount();
        satisfaction();
        meanPieces();
        inconsistencies();
        cutFor();
        welfareByKnife();
        welfareByRobin();
        bestFirst();
    }

    private static CakeDivision equalShares() {
        return shared(Cakes.equal(24, 6, 9), BLOCKS);
    }

    private void totalWelfare() {
        in("Promise 31: totalWelfare");
        plain("Returns the sum of the worths of all shares for their owners.");
        says("Returns the sum.", () -> {
            same("no shares", first().totalWelfare(), 0);
            same("one cell", shared(Busy.SMALLEST, "0").totalWelfare(), 1);
            same("the least share", shared(Busy.FIRST, "1------2").totalWelfare(), 10);
            same("the whole cake for the last", shared(Busy.FIRST, "22222222").totalWelfare(), 8);
            same("the greatest", equalShares().totalWelfare(), 216);
        });
    }

    private void leastWelfare() {
        in("Promise 32: leastWelfare");
        plain("Returns the least worth of a share for its owner.");
        says("Returns the least worth over all siblings.", () -> {
            same("no shares", first().leastWelfare(), 0);
            same("one alone", shared(Busy.SMALLEST, "0").leastWelfare(), 1);
            same("the first has least", shared(Busy.FIRST, "01222222").leastWelfare(), 0);
            same("the first has least but something", shared(Busy.FIRST, "1222220-").leastWelfare(), 2);
            same("the last has least", shared(Busy.FIRST, "10000002").leastWelfare(), 1);
            same("an empty share of the last", shared(Busy.FIRST, "10000000").leastWelfare(), 0);
            same("equal shares", equalShares().leastWelfare(), 36);
        });
    }

    private void welfareProduct() {
        in("Promise 33: welfareProduct");
        plain("Returns the product of the worths of all shares for their owners.");
        says("Returns the product.", () -> {
            same("no shares", first().welfareProduct(), 0);
            same("one alone", shared(Busy.SMALLEST, "0").welfareProduct(), 1);
            same("one empty share", shared(Busy.FIRST, "10000000").welfareProduct(), 0);
            same("three shares", shared(Busy.FIRST, "10000002").welfareProduct(), 9 * 18);
            same("the greatest, beyond an int", equalShares().welfareProduct(), 2176782336L);
            CakeDivision cake = shared(Cakes.equal(24, 6, 9), "000001111222233334444555");
            same("the greatest but one", cake.welfareProduct(), 45L * 27 * 36 * 36 * 36 * 36);
        });
    }

    private void greatestTotalWelfare() {
        in("Promise 34: greatestTotalWelfare");
        plain("Returns the greatest total welfare of any assignment of all cells.");
        says("Returns the sum, over all cells, of the greatest value of the cell.", () -> {
            same("the least", Cakes.of(Cakes.equal(24, 6, 0)).greatestTotalWelfare(), 0);
            same("the greatest", Cakes.of(Cakes.equal(24, 6, 9)).greatestTotalWelfare(), 216);
            same("one cell", smallest().greatestTotalWelfare(), 1);
            same("the first has the greatest", Cakes.of("cake 1;sibling a 9;sibling b 8;").greatestTotalWelfare(), 9);
            same("the last has the greatest", Cakes.of("cake 1;sibling a 0;sibling b 1;").greatestTotalWelfare(), 1);
            same("the last cell counts", Cakes.of("cake 2;sibling a 0 1;").greatestTotalWelfare(), 1);
            same("whoever owns the cells", shared(Busy.FIRST, "22222222").greatestTotalWelfare(), 36);
        });
    }

    private void greatestContiguousWelfare() {
        in("Promise 35: greatestContiguousWelfare");
        plain("Returns the greatest total welfare of a contiguous division.");
        says("Returns the greatest sum of the worths of the pieces for their siblings.", () -> {
            same("the least", Cakes.of(Cakes.equal(24, 6, 0)).greatestContiguousWelfare(), 0);
            same("the greatest", Cakes.of(Cakes.equal(24, 6, 9)).greatestContiguousWelfare(), 216);
            same("one cell", smallest().greatestContiguousWelfare(), 1);
            same("one cell for six", Cakes.of(Cakes.equal(1, 6, 7)).greatestContiguousWelfare(), 7);
            same("all cells for one of two",
                Cakes.of("cake 3;sibling a 5 5 5;sibling b 4 4 4;").greatestContiguousWelfare(), 15);
            same("whoever owns the cells", shared(Busy.FIRST, "22222222").greatestContiguousWelfare(), 28);
            CakeDivision lesser = Cakes.of(Cakes.equal(24, 6, 9));
            same("a cake of much worth", lesser.greatestContiguousWelfare(), 216);
            Cakes.load(lesser, Cakes.equal(24, 6, 1));
            same("a cake of little worth after it", lesser.greatestContiguousWelfare(), 24);
        });
    }

    private void bestLeastWelfare() {
        in("Promise 36: bestLeastWelfare");
        plain("Returns the greatest least welfare of a contiguous division.");
        says("Returns the greatest value of the least worth of a piece for its sibling.", () -> {
            same("the least", Cakes.of(Cakes.equal(24, 6, 0)).bestLeastWelfare(), 0);
            same("one cell less than siblings", Cakes.of(Cakes.equal(5, 6, 9)).bestLeastWelfare(), 0);
            same("as many cells as siblings", Cakes.of(Cakes.equal(6, 6, 9)).bestLeastWelfare(), 9);
            same("the greatest of six", Cakes.of(Cakes.equal(24, 6, 9)).bestLeastWelfare(), 36);
            same("the greatest of one", Cakes.of(Cakes.equal(24, 1, 9)).bestLeastWelfare(), 216);
            same("one cell", smallest().bestLeastWelfare(), 1);
            same("one who values nothing", Cakes.of("cake 2;sibling a 9 9;sibling b 0 0;").bestLeastWelfare(), 0);
            same("whoever owns the cells", shared(Busy.FIRST, "22222222").bestLeastWelfare(), 5);
            for (int total : new int[] {1, 127, 128, 129, 215, 216}) {
                same("each worth of one", ofTotal(total).bestLeastWelfare(), total);
            }
        });
    }

    /** One sibling and 24 cells with this total. */
    private static CakeDivision ofTotal(int total) {
        CakeDivision cake = Cakes.of(Cakes.equal(24, 1, 0));
        for (int left = total, cell = 0; left > 0; left -= 9, cell++) {
            cake.setValue(0, cell, Math.min(left, 9));
        }
        return cake;
    }

    private void cutCount() {
        in("Promise 37: cutCount");
        plain("Returns the least number of cuts between cells of different owners.");
        says("Returns the number of cells, except the last one, whose right neighbour has another owner (a free cell "
            + "counts as a cell with an owner of its own, the same for all free cells).", () -> {
            same("a cake of one cell", smallest().cutCount(), 0);
            same("its owner", shared(Busy.SMALLEST, "0").cutCount(), 0);
            same("free cells", greatest().cutCount(), 0);
            same("one owner", shared(Busy.FIRST, "00000000").cutCount(), 0);
            same("the first cell", shared(Busy.FIRST, "0-------").cutCount(), 1);
            same("the last cell", shared(Busy.FIRST, "-------0").cutCount(), 1);
            same("the last cell of another", shared(Busy.FIRST, "00000001").cutCount(), 1);
            same("two free runs", shared(Busy.FIRST, "--0--1--").cutCount(), 4);
            same("a free cell between two owners", shared(Busy.FIRST, "000-1111").cutCount(), 2);
            same("each cell of 24", shared(Busy.GREATEST, "05".repeat(12)).cutCount(), 23);
            same("each cell of 24 with free ones", shared(Busy.GREATEST, "0-".repeat(12)).cutCount(), 23);
        });
    }

    private void satisfaction() {
        in("Promise 38: satisfaction");
        plain("Returns the share of a sibling in its own total.");
        says(SIBLING, () -> {
            CakeDivision cake = shared(Cakes.equal(24, 6, 1), "0-555");
            check.sameFloat("the first of six", cake.satisfaction(0), 1.0f / 24.0f);
            check.sameFloat("the last of six", cake.satisfaction(5), 3.0f / 24.0f);
        });
        says("Returns the worth of its share divided by its total, both converted to float;", () -> {
            check.sameFloat("an empty share", first().satisfaction(0), 0.0f);
            check.sameFloat("the whole cake", shared(Busy.FIRST, "00000000").satisfaction(0), 1.0f);
            check.sameFloat("1 of 20", shared(Busy.FIRST, "0-------").satisfaction(0), 1.0f / 20.0f);
            check.sameFloat("1 of 3", shared("cake 3;sibling a 1 1 1;", "0").satisfaction(0), 1.0f / 3.0f);
            CakeDivision cake = shared(Cakes.equal(24, 1, 9), "0".repeat(24));
            cake.setValue(0, 0, 8);
            cake.release(1, 1);
            check.sameFloat("206 of 215", cake.satisfaction(0), 206.0f / 215.0f);
        });
        says("0.0f if the total is 0.", () -> {
            check.sameFloat("an empty share", Cakes.of(Cakes.equal(24, 6, 0)).satisfaction(5), 0.0f);
            check.sameFloat("the whole cake", shared("cake 1;sibling a 0;", "0").satisfaction(0), 0.0f);
        });
        says(NO_SIBLING, () -> refusedForNoSibling("satisfaction", (cake, sibling) -> cake.satisfaction(sibling)));
    }

    private void meanPieces() {
        in("Promise 39: meanPieces");
        plain("Returns the mean number of pieces.");
        says("Returns the number of pieces of all shares divided by the number of siblings, both converted to double.",
            () -> {
                check.sameDouble("no shares", first().meanPieces(), 0.0);
                check.sameDouble("one piece of one", shared(Busy.SMALLEST, "0").meanPieces(), 1.0);
                check.sameDouble("one piece of three", shared(Busy.FIRST, "00000000").meanPieces(), 1.0 / 3.0);
                check.sameDouble("the last cell's piece", shared(Busy.FIRST, "00-----2").meanPieces(), 2.0 / 3.0);
                check.sameDouble("24 pieces of six", shared(Busy.GREATEST, "05".repeat(12)).meanPieces(), 4.0);
                check.sameDouble("12 pieces of one", shared(Cakes.equal(24, 1, 1), "0-".repeat(12)).meanPieces(), 12.0);
                check.sameDouble("one piece of six", shared(Busy.GREATEST, "5").meanPieces(), 1.0 / 6.0);
            });
    }

    private void inconsistencies() {
        in("Promise 40: inconsistencies");
        plain("Checks the internal consistency of the state.",
            "Returns the number of cells minus the number of free cells minus the sizes of all shares, plus the number "
            + "of siblings who envy themselves;");
        says("always 0.", () -> {
            for (Busy.Size size : Busy.SIZES) {
                same("a new cake", Cakes.of(size.setup()).inconsistencies(), 0);
                same("a busy one", Busy.cake(size.setup()).inconsistencies(), 0);
            }
            same("all envy all", Cakes.envying(ALL_ENVY_ALL).inconsistencies(), 0);
            same("24 pieces", shared(Busy.GREATEST, "05".repeat(12)).inconsistencies(), 0);
            CakeDivision smaller = greatest();
            smaller.give(5, 0, 23);
            Cakes.load(smaller, Busy.SMALLEST);
            same("one cell after 24", smaller.inconsistencies(), 0);
        });
    }

    private void cutFor() {
        in("Promise 41: cutFor");
        plain("Returns where a cutter would cut the cake.");
        says("The cutter chooses the cut that minimizes the absolute difference between the worths of both sides for "
            + "it;", () -> {
            same("no difference", Cakes.of("cake 4;sibling a 1 2 2 1;").cutFor(0), 2);
            same("a difference of one, more on the left", Cakes.of("cake 3;sibling a 3 1 1;").cutFor(0), 1);
            same("a difference of one, more on the right", Cakes.of("cake 3;sibling a 1 1 3;").cutFor(0), 2);
            same("nearly all on the right", Cakes.of("cake 3;sibling a 0 1 9;").cutFor(0), 2);
            same("nearly all on the left", Cakes.of("cake 3;sibling a 9 1 0;").cutFor(0), 1);
            same("whoever owns the cells", shared(Busy.FIRST, "11111111").cutFor(0), 4);
        });
        says("the leftmost such cut wins a tie.", () -> {
            same("cells without worth between", first().cutFor(1), 1);
            same("before and behind the middle cell", Cakes.of("cake 3;sibling a 2 4 2;").cutFor(0), 1);
            same("before and behind the only cell", smallest().cutFor(0), 0);
            same("before and behind the last cell", Cakes.of("cake 3;sibling a 0 0 9;").cutFor(0), 0);
            same("no worth at all", Cakes.of(Cakes.equal(24, 6, 0)).cutFor(5), 0);
        });
        says(SIBLING, () -> {
            same("the first", first().cutFor(0), 4);
            same("the last", first().cutFor(2), 4);
            CakeDivision six = Cakes.of("cake 2;sibling a 1 0;sibling b 1 1;sibling c 1 1;sibling d 1 1;sibling e 1 1;"
                + "sibling f 9 9;");
            same("the first of six", six.cutFor(0), 0);
            same("the last of six", six.cutFor(5), 1);
        });
        says("Returns the number of cells to the left of the cut, 0 to the number of cells.", () -> {
            same("0 of one", smallest().cutFor(0), 0);
            same("1 of 24", Cakes.of("cake 24;sibling a 9 8" + " 0".repeat(22) + ";").cutFor(0), 1);
            same("23 of 24", Cakes.of("cake 24;sibling a" + " 0".repeat(22) + " 8 9;").cutFor(0), 23);
            // The cut behind the last cell is never better than the one before the first cell.
            same("0 of 24", Cakes.of("cake 24;sibling a" + " 0".repeat(23) + " 9;").cutFor(0), 0);
            same("12 of 24", Cakes.of(Cakes.equal(24, 1, 9)).cutFor(0), 12);
        });
        says(NO_SIBLING, () -> refusedForNoSibling("cutFor", (cake, sibling) -> cake.cutFor(sibling)));
    }

    private void welfareByKnife() {
        in("Promise 42: welfareByKnife");
        plain("Returns the welfare of a sibling after a division by the moving knife.");
        says(SIBLING, () -> {
            same("the first", first().welfareByKnife(0), 13);
            same("the last", first().welfareByKnife(2), 3);
            same("the only one", smallest().welfareByKnife(0), 1);
        });
        says("Returns the worth that the share of the sibling would have for it after movingKnife().", () -> {
            for (String setup : new String[] {Busy.SMALLEST, Busy.FIRST, Busy.GREATEST, Cakes.equal(2, 6, 9),
                Cakes.equal(24, 6, 0), Cakes.equal(24, 5, 9)}) {
                CakeDivision divided = Cakes.of(setup);
                divided.movingKnife();
                for (int sibling = 0; sibling < divided.siblingCount(); sibling++) {
                    CakeDivision cake = Busy.cake(setup);
                    // A busy cake has one value that its setup does not have.
                    cake.undo();
                    cake.undo();
                    cake.undo();
                    same("welfareByKnife", cake.welfareByKnife(sibling), divided.worthOfShare(sibling, sibling));
                }
            }
            same("no piece is left", Cakes.of(Cakes.equal(2, 6, 9)).welfareByKnife(5), 0);
        });
        says(NO_SIBLING, () -> refusedForNoSibling("welfareByKnife", (cake, sibling) -> cake.welfareByKnife(sibling)));
    }

    private void welfareByRobin() {
        in("Promise 43: welfareByRobin");
        plain("Returns the welfare of a sibling after a division by round robin.");
        says(SIBLING, () -> {
            same("the first", first().welfareByRobin(0, 0), 11);
            same("the last", first().welfareByRobin(2, 0), 2);
            same("the only one", smallest().welfareByRobin(0, 0), 1);
        });
        says("- `first`: number of the sibling who picks first", () -> {
            CakeDivision cake = Cakes.of(
                "cake 1;sibling a 1;sibling b 2;sibling c 3;sibling d 4;sibling e 5;sibling f 6;");
            for (int first = 0; first < 6; first++) {
                for (int sibling = 0; sibling < 6; sibling++) {
                    same("welfareByRobin", cake.welfareByRobin(sibling, first), sibling == first ? first + 1 : 0);
                }
            }
        });
        says("Returns the worth that the share of the sibling would have for it if all cells were free and "
            + "roundRobin() was called for the first sibling.", () -> {
            for (Busy.Size size : Busy.SIZES) {
                for (int first = 0; first < size.siblings(); first++) {
                    CakeDivision divided = Cakes.of(size.setup());
                    divided.roundRobin(first);
                    CakeDivision cake = Cakes.of(size.setup());
                    cake.give(0, 0, size.cells() - 1);
                    for (int sibling = 0; sibling < size.siblings(); sibling++) {
                        same("welfareByRobin", cake.welfareByRobin(sibling, first),
                            divided.worthOfShare(sibling, sibling));
                    }
                }
            }
        });
        says(NO_SIBLINGS, () -> {
            refusedForNoSibling("welfareByRobin(sibling, 0)", (cake, sibling) -> cake.welfareByRobin(sibling, 0));
            refusedForNoSibling("welfareByRobin(0, first)", (cake, first) -> cake.welfareByRobin(0, first));
            refusedForNoSibling("both", (cake, sibling) -> cake.welfareByRobin(sibling, sibling));
        });
    }

    private void bestFirst() {
        in("Promise 44: bestFirst");
        plain("Returns the best first sibling of round robin.");
        says("Returns the sibling such that the least welfare would be greatest if all cells were free and "
            + "roundRobin() was called for this sibling;", () -> {
            same("the only one", smallest().bestFirst(), 0);
            same("the one between", first().bestFirst(), 1);
            same("whoever owns the cells", shared(Busy.FIRST, "00000000").bestFirst(), 1);
            same("the last", Cakes.of("cake 3;sibling a 1 1 9;sibling b 1 1 9;sibling c 0 0 5;").bestFirst(), 2);
            StringBuilder six = new StringBuilder("cake 6;");
            for (char name = 'a'; name < 'f'; name++) {
                six.append("sibling ").append(name).append(" 9 1 1 1 1 1;");
            }
            same("the last of six", Cakes.of(six + "sibling f 9 0 0 0 0 0;").bestFirst(), 5);
        });
        says("the lowest number wins a tie.", () -> {
            same("all alike", Cakes.of(Cakes.equal(24, 6, 9)).bestFirst(), 0);
            same("nobody has anything", Cakes.of(Cakes.equal(24, 6, 0)).bestFirst(), 0);
            same("too few cells", Cakes.of(Cakes.equal(5, 6, 9)).bestFirst(), 0);
            same("the last two of three", Cakes.of("cake 3;sibling a 5 5 5;sibling b 1 1 9;sibling c 9 0 0;")
                .bestFirst(), 1);
        });
    }
}

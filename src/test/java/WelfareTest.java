/** Promises 31 to 40: the welfare of a division and of the best divisions. */
public final class WelfareTest {
    private static final Check CHECK = new Check("WelfareTest");

    public static void main(String[] args) {
        welfare();
        greatProduct();
        greatestTotal();
        contiguous();
        contiguousEdges();
        contiguousByTrial();
        contiguousAgain();
        leastOfEachTotal();
        cuts();
        satisfaction();
        meanPieces();
        inconsistencies();
        CHECK.finish();
    }

    private static void welfare() {
        CakeDivision cake = new CakeDivision();
        CHECK.same("totalWelfare of nothing", cake.totalWelfare(), 0);
        CHECK.same("leastWelfare of nothing", cake.leastWelfare(), 0);
        CHECK.same("welfareProduct of nothing", cake.welfareProduct(), 0);
        Cakes.share(cake, "12000-21");
        CHECK.same("totalWelfare", cake.totalWelfare(), 11 + 18 + 2);
        CHECK.same("leastWelfare", cake.leastWelfare(), 2);
        CHECK.same("welfareProduct", cake.welfareProduct(), 11 * 18 * 2);
        cake.release(1, 1);
        cake.release(6, 6);
        CHECK.same("leastWelfare with an empty share", cake.leastWelfare(), 0);
        CHECK.same("welfareProduct with an empty share", cake.welfareProduct(), 0);
        cake.give(0, 0, 7);
        CHECK.same("totalWelfare of one share", cake.totalWelfare(), 20);
        Cakes.share(cake, "01222222");
        CHECK.same("the first share is the least", cake.leastWelfare(), 0);
        Cakes.share(cake, "10222222");
        CHECK.same("the first is least", cake.leastWelfare(), 2);
    }

    /** 24 cells of 9, four for each of six siblings: the product exceeds an int. */
    private static void greatProduct() {
        CakeDivision cake = Cakes.of(Cakes.equal(24, 6, 9));
        for (int sibling = 0; sibling < 6; sibling++) {
            cake.give(sibling, 4 * sibling, 4 * sibling + 3);
        }
        CHECK.same("welfareProduct", cake.welfareProduct(), 2176782336L);
        CHECK.same("totalWelfare", cake.totalWelfare(), 216);
        CHECK.same("leastWelfare", cake.leastWelfare(), 36);
        CHECK.same("greatestTotalWelfare", cake.greatestTotalWelfare(), 216);
        CHECK.same("greatestContiguousWelfare", cake.greatestContiguousWelfare(), 216);
        CHECK.same("bestLeastWelfare", cake.bestLeastWelfare(), 36);
    }

    private static void greatestTotal() {
        CakeDivision cake = new CakeDivision();
        CHECK.same("greatestTotalWelfare", cake.greatestTotalWelfare(), 9 + 2 + 3 + 4 + 4 + 3 + 2 + 9);
        cake.give(2, 0, 7);
        CHECK.same("whoever owns the cells", cake.greatestTotalWelfare(), 36);
        cake.setValue(2, 0, 0);
        cake.setValue(1, 7, 0);
        CHECK.same("with other values", cake.greatestTotalWelfare(), 28);
        CHECK.same("without values", Cakes.of(Cakes.equal(3, 2, 0)).greatestTotalWelfare(), 0);
    }

    private static void contiguous() {
        CakeDivision cake = new CakeDivision();
        CHECK.same("greatestContiguousWelfare", cake.greatestContiguousWelfare(), 28);
        CHECK.same("bestLeastWelfare", cake.bestLeastWelfare(), 5);
        cake.give(2, 0, 7);
        CHECK.same("whoever owns the cells", cake.greatestContiguousWelfare(), 28);
        CHECK.same("whoever owns the cells, the least", cake.bestLeastWelfare(), 5);
        CHECK.same("nothing changed", Cakes.owners(cake), "22222222");
        CakeDivision order = Cakes.of("cake 3;sibling a 0 0 7;sibling b 0 5 0;sibling c 6 0 0;");
        CHECK.same("from right to left", order.greatestContiguousWelfare(), 18);
        CHECK.same("from right to left, the least", order.bestLeastWelfare(), 5);
    }

    private static void contiguousEdges() {
        CakeDivision one = Cakes.of("cake 1;sibling a 3;");
        CHECK.same("one cell for one", one.greatestContiguousWelfare(), 3);
        CHECK.same("one cell for one, the least", one.bestLeastWelfare(), 3);
        CakeDivision whole = Cakes.of(Cakes.equal(24, 1, 9));
        CHECK.same("24 cells for one", whole.greatestContiguousWelfare(), 216);
        CHECK.same("24 cells for one, the least", whole.bestLeastWelfare(), 216);
        CakeDivision many = Cakes.of("cake 1;sibling a 3;sibling b 5;sibling c 4;");
        CHECK.same("an empty piece for two", many.greatestContiguousWelfare(), 5);
        CHECK.same("an empty piece for two, the least", many.bestLeastWelfare(), 0);
        CakeDivision piece = Cakes.of("cake 3;sibling a 9 0 9;sibling b 0 8 0;");
        CHECK.same("one piece only for each", piece.greatestContiguousWelfare(), 18);
        CHECK.same("one piece only for each, the least", piece.bestLeastWelfare(), 8);
        CakeDivision worthless = Cakes.of("cake 3;sibling a 9 9 9;sibling b 0 0 0;");
        CHECK.same("a sibling without values", worthless.greatestContiguousWelfare(), 27);
        CHECK.same("a sibling without values, the least", worthless.bestLeastWelfare(), 0);
    }

    /** Compares with all cuts in all orders, on small cakes. */
    private static void contiguousByTrial() {
        int seed = 1;
        for (int cells = 1; cells <= 7; cells++) {
            for (int siblings = 1; siblings <= 4; siblings++) {
                CakeDivision cake = Cakes.of(Cakes.equal(cells, siblings, 0));
                int[][] values = new int[siblings][cells];
                for (int index = 0; index < cells * siblings; index++) {
                    seed = seed * 1103515245 + 12345;
                    values[index / cells][index % cells] = (seed >>> 16) % 10;
                    cake.setValue(index / cells, index % cells, (seed >>> 16) % 10);
                }
                int[] best = {0, 0};
                tryPieces(values, 0, 0, 0, Integer.MAX_VALUE, best);
                String call = " of " + cells + " cells for " + siblings;
                CHECK.same("greatestContiguousWelfare" + call, cake.greatestContiguousWelfare(), best[0]);
                CHECK.same("bestLeastWelfare" + call, cake.bestLeastWelfare(), best[1]);
            }
        }
    }

    private static void tryPieces(int[][] values, int served, int from, int sum, int least, int[] best) {
        int cells = values[0].length;
        if (Integer.bitCount(served) == values.length) {
            if (from == cells) {
                best[0] = Math.max(best[0], sum);
                best[1] = Math.max(best[1], least);
            }
            return;
        }
        for (int sibling = 0; sibling < values.length; sibling++) {
            int worth = 0;
            for (int end = from; end <= cells && (served & 1 << sibling) == 0; end++) {
                worth += end > from ? values[sibling][end - 1] : 0;
                tryPieces(values, served | 1 << sibling, end, sum + worth, Math.min(least, worth), best);
            }
        }
    }

    /** What an earlier call found must not count in a later one. */
    private static void contiguousAgain() {
        CakeDivision cake = Cakes.of(Cakes.equal(4, 3, 9));
        CHECK.same("greatestContiguousWelfare", cake.greatestContiguousWelfare(), 36);
        CHECK.same("bestLeastWelfare", cake.bestLeastWelfare(), 9);
        Cakes.load(cake, Cakes.equal(4, 3, 1));
        CHECK.same("greatestContiguousWelfare of lesser values", cake.greatestContiguousWelfare(), 4);
        CHECK.same("bestLeastWelfare of lesser values", cake.bestLeastWelfare(), 1);
        cake.setValue(0, 3, 0);
        cake.setValue(1, 3, 0);
        cake.setValue(2, 3, 0);
        CHECK.same("greatestContiguousWelfare without the last cell", cake.greatestContiguousWelfare(), 3);
        Cakes.load(cake, "cake 2;sibling a 1 0;sibling b 0 0;");
        CHECK.same("greatestContiguousWelfare of fewer cells", cake.greatestContiguousWelfare(), 1);
        CHECK.same("bestLeastWelfare of fewer cells", cake.bestLeastWelfare(), 0);
    }

    /** One sibling gets the whole cake, whatever it is worth. */
    private static void leastOfEachTotal() {
        CakeDivision cake = Cakes.of(Cakes.equal(24, 1, 0));
        for (int total = 1; total <= 216; total++) {
            cake.setValue(0, (total - 1) / 9, (total - 1) % 9 + 1);
            CHECK.same("bestLeastWelfare of " + total, cake.bestLeastWelfare(), total);
        }
    }

    private static void cuts() {
        CakeDivision cake = new CakeDivision();
        CHECK.same("cutCount of free cells", cake.cutCount(), 0);
        Cakes.share(cake, "0--11002");
        CHECK.same("cutCount", cake.cutCount(), 4);
        Cakes.share(cake, "01010101");
        CHECK.same("cutCount of all", cake.cutCount(), 7);
        Cakes.share(cake, "00000001");
        CHECK.same("cutCount at the last cell", cake.cutCount(), 1);
        CHECK.same("cutCount of one cell", Cakes.of("cake 1;sibling a 3;").cutCount(), 0);
    }

    private static void satisfaction() {
        CakeDivision cake = Cakes.of("cake 3;sibling a 1 2 4;sibling b 0 0 0;sibling c 1 1 1;");
        CHECK.sameFloat("an empty share", cake.satisfaction(0), 0.0f);
        Cakes.share(cake, "012");
        CHECK.sameFloat("1 of 7", cake.satisfaction(0), 1.0f / 7.0f);
        CHECK.sameFloat("0 of 0", cake.satisfaction(1), 0.0f);
        CHECK.sameFloat("1 of 3", cake.satisfaction(2), 1.0f / 3.0f);
        cake.give(0, 0, 2);
        CHECK.sameFloat("7 of 7", cake.satisfaction(0), 1.0f);
    }

    private static void meanPieces() {
        CakeDivision cake = new CakeDivision();
        CHECK.sameDouble("meanPieces of nothing", cake.meanPieces(), 0.0);
        Cakes.share(cake, "0101--22");
        CHECK.sameDouble("5 pieces of 3", cake.meanPieces(), 5.0 / 3.0);
        Cakes.share(cake, "0-0-0-0-");
        CHECK.sameDouble("4 pieces of one", cake.meanPieces(), 4.0 / 3.0);
    }

    private static void inconsistencies() {
        CakeDivision cake = new CakeDivision();
        CHECK.same("inconsistencies of free cells", cake.inconsistencies(), 0);
        Cakes.share(cake, "0101--22");
        CHECK.same("inconsistencies of shares", cake.inconsistencies(), 0);
        cake.movingKnife();
        CHECK.same("inconsistencies after the knife", cake.inconsistencies(), 0);
        cake.undo();
        CHECK.same("inconsistencies after undo", cake.inconsistencies(), 0);
    }
}

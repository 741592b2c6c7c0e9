/** All calls on a cake of 24 cells and 6 siblings, and on a small cake after it, where nothing of it may be left. */
public final class GreatestCakeTest {
    private static final Check CHECK = new Check("GreatestCakeTest");
    private static final int LAST_SIBLING = 5;
    private static final int LAST_CELL = 23;
    private static final String BLOCKS = "000011112222333344445555";

    public static void main(String[] args) {
        shares();
        fairness();
        welfare();
        wouldBe();
        changes();
        memory();
        smallCakeAfterwards();
        CHECK.finish();
    }

    /** Each sibling values four cells of its own with 9, in the order of the siblings, and all others with 1. */
    private static CakeDivision cake() {
        StringBuilder setup = new StringBuilder("cake 24;");
        for (int sibling = 0; sibling <= LAST_SIBLING; sibling++) {
            setup.append("sibling ").append((char) ('a' + sibling));
            for (int cell = 0; cell <= LAST_CELL; cell++) {
                setup.append(cell / 4 == sibling ? " 9" : " 1");
            }
            setup.append(';');
        }
        return Cakes.of(setup.toString());
    }

    private static CakeDivision divided() {
        CakeDivision cake = cake();
        CHECK.same("roundRobin", cake.roundRobin(LAST_SIBLING), 24);
        CHECK.same("the owners", Cakes.owners(cake), BLOCKS);
        return cake;
    }

    private static void shares() {
        CakeDivision cake = cake();
        CHECK.same("freeCount", cake.freeCount(), 24);
        CHECK.same("favouriteFreeCell", cake.favouriteFreeCell(LAST_SIBLING), 20);
        CHECK.same("worth", cake.worth(LAST_SIBLING, 0, LAST_CELL), 56);
        CHECK.same("total", cake.total(LAST_SIBLING), 56);
        CHECK.same("mark", cake.mark(LAST_SIBLING, LAST_CELL, 24), LAST_CELL);
        CHECK.same("mark of one part", cake.mark(LAST_SIBLING, 0, 1), LAST_CELL);
        cake.give(LAST_SIBLING, 0, LAST_CELL);
        CHECK.same("favouriteFreeCell of none", cake.favouriteFreeCell(LAST_SIBLING), CakeDivision.NONE);
        CHECK.same("worthOfShare", cake.worthOfShare(LAST_SIBLING, LAST_SIBLING), 56);
        CHECK.same("shareSize", cake.shareSize(LAST_SIBLING), 24);
        CHECK.same("pieceCount", cake.pieceCount(LAST_SIBLING), 1);
        CHECK.same("cutCount", cake.cutCount(), 0);
        CHECK.same("freeCount of none", cake.freeCount(), 0);
    }

    private static void fairness() {
        CakeDivision cake = divided();
        CHECK.same("envyCount", cake.envyCount(), 0);
        CHECK.same("satisfiedCount", cake.satisfiedCount(), 6);
        CHECK.same("envyCycleLength", cake.envyCycleLength(LAST_SIBLING), CakeDivision.NONE);
        CHECK.same("swapShares", cake.swapShares(0, LAST_SIBLING), 2);
        CHECK.same("envies", cake.envies(LAST_SIBLING, 0), true);
        CHECK.same("isMild", cake.isMild(LAST_SIBLING, 0), false);
        CHECK.same("wouldSwap", cake.wouldSwap(0, LAST_SIBLING), true);
        CHECK.same("strongEnvyCount", cake.strongEnvyCount(), 2);
        CHECK.same("mostEnvied", cake.mostEnvied(), 0);
        CHECK.same("isSatisfied", cake.isSatisfied(LAST_SIBLING), false);
        CHECK.same("satisfiedCount", cake.satisfiedCount(), 4);
        for (int other = 4; other > 0; other--) {
            cake.swapShares(0, other);
        }
        CHECK.same("all have another's share", Cakes.owners(cake), "555500001111222233334444");
        CHECK.same("envyCycleLength", cake.envyCycleLength(3), 6);
        CHECK.same("envyCycleMember", cake.envyCycleMember(3, 5), 4);
        CHECK.same("rotate", cake.rotate(3), 6);
        CHECK.same("all have their own", Cakes.owners(cake), BLOCKS);
    }

    private static void welfare() {
        CakeDivision cake = divided();
        CHECK.same("totalWelfare", cake.totalWelfare(), 216);
        CHECK.same("leastWelfare", cake.leastWelfare(), 36);
        CHECK.same("welfareProduct", cake.welfareProduct(), 2176782336L);
        CHECK.same("greatestTotalWelfare", cake.greatestTotalWelfare(), 216);
        CHECK.same("greatestContiguousWelfare", cake.greatestContiguousWelfare(), 216);
        CHECK.same("bestLeastWelfare", cake.bestLeastWelfare(), 36);
        CHECK.same("cutCount", cake.cutCount(), 5);
        CHECK.sameFloat("satisfaction", cake.satisfaction(LAST_SIBLING), 36.0f / 56.0f);
        CHECK.sameDouble("meanPieces", cake.meanPieces(), 1.0);
        CHECK.same("inconsistencies", cake.inconsistencies(), 0);
    }

    private static void wouldBe() {
        CakeDivision cake = cake();
        CHECK.same("cutFor(0)", cake.cutFor(0), 3);
        CHECK.same("cutFor the last sibling", cake.cutFor(LAST_SIBLING), 21);
        CHECK.same("welfareByRobin", cake.welfareByRobin(LAST_SIBLING, LAST_SIBLING), 36);
        CHECK.same("bestFirst", cake.bestFirst(), 0);
        int[] welfares = new int[LAST_SIBLING + 1];
        for (int sibling = 0; sibling <= LAST_SIBLING; sibling++) {
            welfares[sibling] = cake.welfareByKnife(sibling);
        }
        cake.movingKnife();
        for (int sibling = 0; sibling <= LAST_SIBLING; sibling++) {
            CHECK.same("welfareByKnife", welfares[sibling], cake.worthOfShare(sibling, sibling));
        }
    }

    private static void changes() {
        CakeDivision cake = cake();
        CHECK.same("movingKnife", cake.movingKnife(), 6);
        CHECK.same("its owners", Cakes.owners(cake), "001112222233334444455555");
        CHECK.same("divideAndChoose", cake.divideAndChoose(LAST_SIBLING, 0), 21);
        CHECK.same("its owners", Cakes.owners(cake), "000000000000000000000555");
        CHECK.same("release", cake.release(0, LAST_CELL), 24);
        CHECK.same("give", cake.give(LAST_SIBLING, LAST_CELL, LAST_CELL), 9);
        CHECK.same("setValue", cake.setValue(LAST_SIBLING, LAST_CELL, 0), 9);
        CHECK.same("a script", Cakes.run(cake, "free 0 23;robin f;swap a f;rotate a;divide f a;value f 23 8;"), 6);
        CHECK.same("its owners", Cakes.owners(cake), "000000000000000000005555");
    }

    private static void memory() {
        CakeDivision cake = divided();
        CHECK.same("save", cake.save(1), 0);
        cake.setValue(LAST_SIBLING, LAST_CELL, 3);
        cake.release(0, LAST_CELL);
        cake.save(0);
        CHECK.same("undo", cake.undo(), 2);
        CHECK.same("the owners after undo", Cakes.owners(cake), BLOCKS);
        CHECK.same("undo", cake.undo(), 1);
        CHECK.same("the value after undo", cake.value(LAST_SIBLING, LAST_CELL), 9);
        CHECK.same("restore(0)", cake.restore(0), 24);
        CHECK.same("the value of slot 0", cake.value(LAST_SIBLING, LAST_CELL), 3);
        CHECK.same("restore(1)", cake.restore(1), 0);
        CHECK.same("the owners of slot 1", Cakes.owners(cake), BLOCKS);
        CHECK.same("the value of slot 1", cake.value(LAST_SIBLING, LAST_CELL), 9);
        CHECK.same("writeOwners", cake.writeOwners(), 17);
        CHECK.same("its text", Cakes.output(cake), "4a 4b 4c 4d 4e 4f");
    }

    private static void smallCakeAfterwards() {
        CakeDivision cake = divided();
        cake.give(1, 2, LAST_CELL);
        Cakes.load(cake, "cake 2;sibling a 0 3;sibling b 1 2;");
        CHECK.same("freeCount", cake.freeCount(), 2);
        CHECK.same("shareSize", cake.shareSize(1), 0);
        CHECK.same("pieceCount", cake.pieceCount(1), 0);
        CHECK.same("total", cake.total(0), 3);
        CHECK.same("worthOfShare", cake.worthOfShare(1, 1), 0);
        CHECK.same("totalWelfare", cake.totalWelfare(), 0);
        CHECK.same("greatestTotalWelfare", cake.greatestTotalWelfare(), 4);
        CHECK.same("cutFor", cake.cutFor(1), 1);
        CHECK.same("bestFirst", cake.bestFirst(), 0);
        CHECK.same("welfareByKnife", cake.welfareByKnife(0), 3);
        CHECK.same("roundRobin", cake.roundRobin(1), 2);
        CHECK.same("the owners", Cakes.owners(cake), "01");
        CHECK.same("envyCount", cake.envyCount(), 1);
        CHECK.same("cutCount", cake.cutCount(), 1);
        CHECK.same("writeOwners", cake.writeOwners(), 5);
        CHECK.same("isMild", cake.isMild(0, 1), true);
        CHECK.same("inconsistencies", cake.inconsistencies(), 0);
    }
}

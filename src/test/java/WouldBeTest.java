/** Promises 41 to 44: what would be; nothing changes. */
public final class WouldBeTest {
    private static final Check CHECK = new Check("WouldBeTest");

    public static void main(String[] args) {
        cutFor();
        welfareByKnife();
        welfareByRobin();
        bestFirst();
        nothingChanges();
        CHECK.finish();
    }

    private static void cutFor() {
        CakeDivision cake = new CakeDivision();
        CHECK.same("cutFor(0)", cake.cutFor(0), 4);
        CHECK.same("the leftmost of equal cuts", cake.cutFor(1), 1);
        CHECK.same("cutFor(2)", cake.cutFor(2), 4);
        CakeDivision edges = Cakes.of("cake 3;sibling a 0 0 0;sibling b 9 0 1;sibling c 1 0 9;sibling d 2 4 2;");
        CHECK.same("no values", edges.cutFor(0), 0);
        CHECK.same("mostly on the left", edges.cutFor(1), 1);
        CHECK.same("mostly on the right", edges.cutFor(2), 1);
        CHECK.same("a tie of differences", edges.cutFor(3), 1);
        CakeDivision one = Cakes.of("cake 1;sibling a 5;");
        CHECK.same("one cell", one.cutFor(0), 0);
        CakeDivision right = Cakes.of("cake 3;sibling a 1 1 3;sibling b 0 0 1;");
        CHECK.same("more on the right", right.cutFor(0), 2);
        CHECK.same("all on the right", right.cutFor(1), 0);
    }

    private static void welfareByKnife() {
        CakeDivision cake = new CakeDivision();
        Cakes.share(cake, "01201201");
        for (int sibling = 0; sibling < 3; sibling++) {
            int due = sibling == 0 ? 13 : sibling == 1 ? 9 : 3;
            CHECK.same("welfareByKnife(" + sibling + ")", cake.welfareByKnife(sibling), due);
        }
        CHECK.same("the owners stay", Cakes.owners(cake), "01201201");
        cake.movingKnife();
        CHECK.same("the same as after the knife", cake.worthOfShare(0, 0), cake.welfareByKnife(0));
        CakeDivision few = Cakes.of("cake 1;sibling a 3;sibling b 5;");
        CHECK.same("the first of a tie", few.welfareByKnife(0), 3);
        CHECK.same("nothing is left", few.welfareByKnife(1), 0);
    }

    private static void welfareByRobin() {
        CakeDivision cake = new CakeDivision();
        // 0 takes cell 3, 1 cell 0, 2 cell 1, 0 cell 4, 1 cell 7, 2 cell 2, 0 cell 5, 1 cell 6.
        int[] due = {11, 18, 2};
        for (int sibling = 0; sibling < 3; sibling++) {
            CHECK.same("welfareByRobin(" + sibling + ", 0)", cake.welfareByRobin(sibling, 0), due[sibling]);
        }
        // 2 takes cell 0, 0 cell 3, 1 cell 7, 2 cell 1, 0 cell 4, 1 cell 2, 2 cell 5, 0 cell 6.
        int[] dueFromTwo = {10, 9, 3};
        for (int sibling = 0; sibling < 3; sibling++) {
            CHECK.same("welfareByRobin(" + sibling + ", 2)", cake.welfareByRobin(sibling, 2), dueFromTwo[sibling]);
        }
        cake.give(0, 0, 7);
        CHECK.same("whoever owns the cells", cake.welfareByRobin(0, 0), 11);
    }

    private static void bestFirst() {
        CakeDivision cake = new CakeDivision();
        CHECK.same("bestFirst", cake.bestFirst(), 1);
        cake.give(0, 0, 7);
        CHECK.same("bestFirst, whoever owns the cells", cake.bestFirst(), 1);
        CHECK.same("a tie", Cakes.of("cake 2;sibling a 1 1;sibling b 1 1;").bestFirst(), 0);
        CHECK.same("the last", Cakes.of("cake 3;sibling a 1 1 9;sibling b 1 1 9;sibling c 0 0 5;").bestFirst(), 2);
        CHECK.same("only one", Cakes.of("cake 3;sibling a 1 1 1;").bestFirst(), 0);
    }

    private static void nothingChanges() {
        CakeDivision cake = new CakeDivision();
        Cakes.share(cake, "0-12");
        cake.save(0);
        cake.restore(0);
        String before = Cakes.describe(cake);
        cake.cutFor(0);
        cake.welfareByKnife(1);
        cake.welfareByRobin(2, 1);
        cake.bestFirst();
        cake.greatestContiguousWelfare();
        cake.bestLeastWelfare();
        CHECK.same("after all that would be", Cakes.describe(cake), before);
        CHECK.throwing("undo() of nothing", IllegalStateException.class, () -> cake.undo());
    }
}

/** Promises 7 to 9 and 11 to 20: the cake and its shares. */
public final class CakeTest {
    private static final Check CHECK = new Check("CakeTest");
    private static final Class<IndexOutOfBoundsException> NO_INDEX = IndexOutOfBoundsException.class;
    private static final Class<IllegalArgumentException> NO_ARGUMENT = IllegalArgumentException.class;

    public static void main(String[] args) {
        counts();
        nameByte();
        value();
        owner();
        worth();
        total();
        worthOfShare();
        sizes();
        mark();
        favourite();
        CHECK.finish();
    }

    private static void counts() {
        CakeDivision cake = new CakeDivision();
        CHECK.same("cellCount", cake.cellCount(), 8);
        CHECK.same("siblingCount", cake.siblingCount(), 3);
        Cakes.load(cake, "cake 1;sibling a 1;");
        CHECK.same("cellCount of one", cake.cellCount(), 1);
        CHECK.same("siblingCount of one", cake.siblingCount(), 1);
    }

    private static void nameByte() {
        CakeDivision cake = Cakes.of("cake 1;sibling z 1;sibling abcdef 1;");
        CHECK.same("nameByte(0, 0)", cake.nameByte(0, 0), 'z');
        CHECK.same("nameByte(1, 0)", cake.nameByte(1, 0), 'a');
        CHECK.same("nameByte(1, 5)", cake.nameByte(1, 5), 'f');
        CHECK.refused("nameByte(0, 1)", cake, NO_INDEX, () -> cake.nameByte(0, 1));
        CHECK.refused("nameByte(1, 6)", cake, NO_INDEX, () -> cake.nameByte(1, 6));
        CHECK.refused("nameByte(1, -1)", cake, NO_INDEX, () -> cake.nameByte(1, -1));
        CHECK.refused("nameByte(2, 0)", cake, NO_INDEX, () -> cake.nameByte(2, 0));
        CHECK.refused("nameByte(-1, 0)", cake, NO_INDEX, () -> cake.nameByte(-1, 0));
    }

    private static void value() {
        CakeDivision cake = new CakeDivision();
        CHECK.same("value(0, 3)", cake.value(0, 3), 4);
        CHECK.same("value(1, 7)", cake.value(1, 7), 9);
        CHECK.same("value(2, 0)", cake.value(2, 0), 1);
    }

    private static void owner() {
        CakeDivision cake = new CakeDivision();
        cake.give(2, 7, 7);
        CHECK.same("owner(7)", cake.owner(7), 2);
        CHECK.same("owner(0)", cake.owner(0), CakeDivision.NONE);
    }

    private static void worth() {
        CakeDivision cake = new CakeDivision();
        CHECK.same("worth(0, 0, 7)", cake.worth(0, 0, 7), 20);
        CHECK.same("worth(0, 2, 4)", cake.worth(0, 2, 4), 11);
        CHECK.same("worth(0, 5, 5)", cake.worth(0, 5, 5), 3);
        CHECK.same("worth(1, 1, 7)", cake.worth(1, 1, 7), 9);
        CHECK.same("worth(1, 0, 6)", cake.worth(1, 0, 6), 9);
        CHECK.refused("worth(0, 3, 2)", cake, NO_ARGUMENT, () -> cake.worth(0, 3, 2));
    }

    private static void total() {
        CakeDivision cake = new CakeDivision();
        CHECK.same("total(0)", cake.total(0), 20);
        CHECK.same("total(1)", cake.total(1), 18);
        CHECK.same("total(2)", cake.total(2), 8);
        CHECK.same("a total of 0", Cakes.of("cake 2;sibling a 0 0;").total(0), 0);
    }

    private static void worthOfShare() {
        CakeDivision cake = new CakeDivision();
        Cakes.share(cake, "01-0--12");
        CHECK.same("worthOfShare(0, 0)", cake.worthOfShare(0, 0), 5);
        CHECK.same("worthOfShare(0, 1)", cake.worthOfShare(0, 1), 4);
        CHECK.same("worthOfShare(1, 0)", cake.worthOfShare(1, 0), 9);
        CHECK.same("worthOfShare(1, 2)", cake.worthOfShare(1, 2), 9);
        CHECK.same("worthOfShare(2, 1)", cake.worthOfShare(2, 1), 2);
        cake.release(7, 7);
        CHECK.same("worth of an empty share", cake.worthOfShare(0, 2), 0);
    }

    private static void sizes() {
        CakeDivision cake = new CakeDivision();
        CHECK.same("all are free", cake.freeCount(), 8);
        CHECK.same("an empty share", cake.shareSize(0), 0);
        CHECK.same("its pieces", cake.pieceCount(0), 0);
        Cakes.share(cake, "0010-110");
        CHECK.same("freeCount", cake.freeCount(), 1);
        CHECK.same("shareSize(0)", cake.shareSize(0), 4);
        CHECK.same("pieceCount(0)", cake.pieceCount(0), 3);
        CHECK.same("shareSize(1)", cake.shareSize(1), 3);
        CHECK.same("pieceCount(1)", cake.pieceCount(1), 2);
        CHECK.same("shareSize(2)", cake.shareSize(2), 0);
        cake.give(2, 0, 7);
        CHECK.same("the whole cake is one piece", cake.pieceCount(2), 1);
        CHECK.same("no cell is free", cake.freeCount(), 0);
    }

    private static void mark() {
        CakeDivision cake = new CakeDivision();
        CHECK.same("mark(0, 0, 1)", cake.mark(0, 0, 1), 7);
        CHECK.same("mark(0, 0, 2)", cake.mark(0, 0, 2), 3);
        CHECK.same("mark(0, 0, 3)", cake.mark(0, 0, 3), 3);
        CHECK.same("mark(0, 0, 4)", cake.mark(0, 0, 4), 2);
        CHECK.same("mark(0, 4, 2)", cake.mark(0, 4, 2), 5);
        CHECK.same("mark(0, 7, 1)", cake.mark(0, 7, 1), 7);
        CHECK.same("mark(0, 0, 24)", cake.mark(0, 0, 24), 0);
        CHECK.same("mark(1, 0, 1)", cake.mark(1, 0, 1), 7);
        CHECK.same("mark(1, 0, 2)", cake.mark(1, 0, 2), 0);
        CHECK.same("mark(1, 1, 24)", cake.mark(1, 1, 24), 7);
        CHECK.same("mark(2, 0, 3)", cake.mark(2, 0, 3), 2);
        CHECK.same("mark(2, 0, 4)", cake.mark(2, 0, 4), 1);
        CakeDivision worthless = Cakes.of("cake 3;sibling a 0 0 0;sibling b 1 0 0;");
        CHECK.same("a mark of nothing", worthless.mark(0, 0, 1), 0);
        CHECK.same("a mark of nothing farther right", worthless.mark(1, 1, 5), 1);
    }

    private static void favourite() {
        CakeDivision cake = new CakeDivision();
        CHECK.same("favouriteFreeCell(0)", cake.favouriteFreeCell(0), 3);
        CHECK.same("favouriteFreeCell(1)", cake.favouriteFreeCell(1), 0);
        CHECK.same("favouriteFreeCell(2)", cake.favouriteFreeCell(2), 0);
        Cakes.share(cake, "0--0---1");
        CHECK.same("the next favourite of 0", cake.favouriteFreeCell(0), 4);
        CHECK.same("a favourite without value", cake.favouriteFreeCell(1), 1);
        cake.give(0, 0, 7);
        CHECK.same("no cell is free", cake.favouriteFreeCell(0), CakeDivision.NONE);
    }
}

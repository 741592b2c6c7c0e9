/** Promises 54 to 58: undo, the saved states and the output text. */
public final class MemoryTest {
    private static final Check CHECK = new Check("MemoryTest");
    private static final Class<IndexOutOfBoundsException> NO_INDEX = IndexOutOfBoundsException.class;
    private static final Class<IllegalStateException> NO_STATE = IllegalStateException.class;

    public static void main(String[] args) {
        undoOfEachChange();
        undoOfSeven();
        undoAndChangeAgain();
        undoLeavesTheRest();
        save();
        restore();
        restoreLeavesTheRest();
        slots();
        writeOwners();
        longOutput();
        outputByte();
        CHECK.finish();
    }

    private static void undoOfEachChange() {
        undone("give", cake -> cake.give(0, 1, 2));
        undone("release", cake -> cake.release(0, 7));
        undone("swapShares", cake -> cake.swapShares(0, 1));
        undone("setValue", cake -> cake.setValue(2, 3, 7));
        undone("divideAndChoose", cake -> cake.divideAndChoose(2, 0));
        undone("movingKnife", cake -> cake.movingKnife());
        undone("roundRobin", cake -> cake.roundRobin(1));
        undone("rotate", cake -> cake.rotate(0));
        undone("runScript", cake -> Cakes.run(cake, "value ann 0 9;knife;robin bob;rotate bob;"));
        undone("a change that changes nothing", cake -> cake.give(0, 0, 0));
    }

    private interface Change {
        int make(CakeDivision cake);
    }

    private static void undone(String name, Change change) {
        CakeDivision cake = new CakeDivision();
        Cakes.run(cake, "give ann 0 0;give ann 7 7;give bob 3 4;");
        String before = Cakes.describe(cake);
        change.make(cake);
        CHECK.same("undo of " + name, cake.undo(), 1);
        CHECK.same("the state after undo of " + name, Cakes.describe(cake), before);
        CHECK.same("undo of the script", cake.undo(), 0);
        CHECK.refused("undo of nothing", cake, NO_STATE, () -> cake.undo());
    }

    private static void undoOfSeven() {
        CakeDivision cake = new CakeDivision();
        for (int cell = 0; cell < 7; cell++) {
            cake.give(1, cell, cell);
        }
        for (int left = 5; left >= 0; left--) {
            CHECK.same("undo with " + left + " left", cake.undo(), left);
            CHECK.same("free cells", cake.freeCount(), 7 - left);
        }
        CHECK.same("the first change stays", Cakes.owners(cake), "1-------");
        CHECK.refused("undo of the seventh", cake, NO_STATE, () -> cake.undo());
    }

    private static void undoAndChangeAgain() {
        CakeDivision cake = new CakeDivision();
        for (int cell = 0; cell < 8; cell++) {
            cake.give(1, cell, cell);
        }
        cake.undo();
        cake.undo();
        cake.give(2, 6, 6);
        CHECK.same("the owners", Cakes.owners(cake), "1111112-");
        String[] due = {"111111--", "11111---", "1111----", "111-----", "11------"};
        for (int index = 0; index < due.length; index++) {
            CHECK.same("undo " + index, cake.undo(), due.length - 1 - index);
            CHECK.same("the owners after undo " + index, Cakes.owners(cake), due[index]);
        }
        CHECK.throwing("undo of nothing", NO_STATE, () -> cake.undo());
    }

    private static void undoLeavesTheRest() {
        CakeDivision cake = new CakeDivision();
        cake.give(0, 0, 3);
        cake.save(1);
        cake.writeOwners();
        Cakes.type(cake, "cake 0;");
        CHECK.throwing("load", IllegalArgumentException.class, () -> cake.load());
        Cakes.type(cake, "ann");
        CHECK.same("undo", cake.undo(), 0);
        CHECK.same("after undo", Cakes.describe(cake),
            "8 cells -------- ann 12344321 bob 90000009 cid 11111111 error 2 at 5 buffer 3 output 4ann 4-");
        CHECK.same("findSibling after undo", cake.findSibling(), 0);
        CHECK.same("restore after undo", cake.restore(1), 4);
    }

    private static void save() {
        CakeDivision cake = new CakeDivision();
        cake.give(0, 0, 4);
        cake.setValue(1, 1, 7);
        CHECK.same("save(0)", cake.save(0), 3);
        CHECK.same("save is no change", cake.undo(), 1);
        cake.give(2, 5, 7);
        CHECK.same("save(1)", cake.save(1), 0);
        CHECK.same("restore(0)", cake.restore(0), 3);
        CHECK.same("the owners of slot 0", Cakes.owners(cake), "00000---");
        CHECK.same("the values of slot 0", Cakes.values(cake, 1), "97000009");
        CHECK.same("restore(1)", cake.restore(1), 0);
        CHECK.same("the owners of slot 1", Cakes.owners(cake), "00000222");
        CHECK.same("the values of slot 1", Cakes.values(cake, 1), "90000009");
        cake.release(0, 7);
        CHECK.same("save(0) again", cake.save(0), 8);
        cake.give(1, 0, 7);
        CHECK.same("restore(0) again", cake.restore(0), 8);
        CHECK.same("the owners of slot 0 again", Cakes.owners(cake), "--------");
    }

    private static void restore() {
        CakeDivision cake = new CakeDivision();
        cake.give(0, 0, 0);
        cake.save(0);
        cake.give(0, 1, 1);
        CHECK.same("restore(0)", cake.restore(0), 7);
        CHECK.throwing("undo after restore", NO_STATE, () -> cake.undo());
        CHECK.same("restore(0) stays saved", cake.restore(0), 7);
        cake.give(1, 5, 5);
        CHECK.same("undo of the change after restore", cake.undo(), 0);
        CHECK.same("the owners", Cakes.owners(cake), "0-------");
        cake.give(1, 5, 5);
        CHECK.same("restore(0) once more", cake.restore(0), 7);
        CHECK.same("the owners", Cakes.owners(cake), "0-------");
    }

    private static void restoreLeavesTheRest() {
        CakeDivision cake = new CakeDivision();
        cake.save(0);
        cake.give(0, 0, 3);
        cake.writeOwners();
        Cakes.type(cake, "rotate dan;");
        CHECK.throwing("runScript", IllegalArgumentException.class, () -> cake.runScript());
        Cakes.type(cake, "bob");
        CHECK.same("restore(0)", cake.restore(0), 8);
        CHECK.same("after restore", Cakes.describe(cake),
            "8 cells -------- ann 12344321 bob 90000009 cid 11111111 error 3 at 7 buffer 3 output 4ann 4-");
    }

    private static void slots() {
        CakeDivision cake = new CakeDivision();
        cake.give(0, 0, 0);
        CHECK.refused("restore(0) of nothing", cake, NO_STATE, () -> cake.restore(0));
        CHECK.refused("restore(1) of nothing", cake, NO_STATE, () -> cake.restore(1));
        cake.save(1);
        CHECK.refused("restore(0) of nothing still", cake, NO_STATE, () -> cake.restore(0));
        CHECK.same("a refused restore keeps the history", cake.undo(), 0);
        CHECK.same("restore(1)", cake.restore(1), 7);
    }

    private static void writeOwners() {
        CakeDivision cake = new CakeDivision();
        CHECK.same("writeOwners of free cells", cake.writeOwners(), 2);
        CHECK.same("its text", Cakes.output(cake), "8-");
        cake.movingKnife();
        CHECK.same("the text stays", Cakes.output(cake), "8-");
        CHECK.same("writeOwners", cake.writeOwners(), 14);
        CHECK.same("its text", Cakes.output(cake), "1bob 4ann 3cid");
        cake.release(2, 3);
        cake.writeOwners();
        CHECK.same("its text", Cakes.output(cake), "1bob 1ann 2- 1ann 3cid");
        CHECK.same("inner length", cake.writeOwners(), 22);
        cake.give(1, 0, 7);
        CHECK.same("a shorter text", cake.writeOwners(), 4);
        CHECK.same("its text", Cakes.output(cake), "8bob");
    }

    private static void longOutput() {
        String values = " 1".repeat(24);
        CakeDivision cake = Cakes.of("cake 24;sibling abcdef" + values + ";sibling ghijkl" + values + ";");
        CHECK.same("24 cells", cake.writeOwners(), 3);
        CHECK.same("its text", Cakes.output(cake), "24-");
        cake.give(0, 0, 9);
        cake.give(1, 10, 10);
        cake.writeOwners();
        CHECK.same("two digits", Cakes.output(cake), "10abcdef 1ghijkl 13-");
        cake.give(0, 0, 18);
        cake.writeOwners();
        CHECK.same("19 and 5 cells", Cakes.output(cake), "19abcdef 5-");
        StringBuilder due = new StringBuilder();
        for (int cell = 0; cell < 24; cell++) {
            cake.give(cell % 2, cell, cell);
            due.append(cell == 0 ? "" : " ").append(cell % 2 == 0 ? "1abcdef" : "1ghijkl");
        }
        CHECK.same("the longest text", cake.writeOwners(), 191);
        CHECK.same("its text", Cakes.output(cake), due.toString());
    }

    private static void outputByte() {
        CakeDivision cake = new CakeDivision();
        CHECK.refused("outputByte of nothing", cake, NO_INDEX, () -> cake.outputByte(0));
        cake.writeOwners();
        CHECK.same("outputByte(0)", cake.outputByte(0), '8');
        CHECK.same("outputByte(1)", cake.outputByte(1), '-');
        CHECK.refused("outputByte(2)", cake, NO_INDEX, () -> cake.outputByte(2));
    }
}

/** Promises 54 to 58: undo, the saved states and the output text. */
final class MemoryChapter extends Chapter {
    private static final String NO_SLOT = "Throws `IndexOutOfBoundsException` if the slot does not exist";
    private static final String SLOT = "- `slot`: 0 or 1";
    private static final int[] NO_SLOTS = {Integer.MIN_VALUE, -1, 2, Integer.MAX_VALUE};

    MemoryChapter(Sentences sentences, Check check) {
        super(sentences, check);
    }

    @Override
    void test() {
        undo();
        save();
        restore();
        writeOwners();
        outputByte();
    }

    private static CakeDivision changed(int changes) {
        CakeDivision cake = greatest();
        for (int cell = 0; cell < changes; cell++) {
            cake.give(cell % 6, cell, cell);
        }
        return cake;
    }

    private void undo() {
        in("Promise 54: undo");
        says("Undoes the latest change that has not been undone.", () -> {
            CakeDivision cake = first();
            cake.give(0, 0, 0);
            cake.setValue(0, 0, 9);
            cake.give(1, 0, 0);
            cake.undo();
            same("the owners after one", Cakes.owners(cake), "0-------");
            same("the value after one", cake.value(0, 0), 9);
            cake.undo();
            same("the value after two", cake.value(0, 0), 1);
            cake.give(2, 7, 7);
            cake.undo();
            same("the owners after a new one", Cakes.owners(cake), "0-------");
            cake.undo();
            same("the owners after all", Cakes.owners(cake), "--------");
            check.throwing("undo of an undone one", NO_STATE, () -> cake.undo());
        });
        says("Returns the number of changes that can still be undone.", () -> {
            same("none after one", changed(1).undo(), 0);
            same("four after five", changed(5).undo(), 4);
            same("five after six", changed(6).undo(), 5);
            same("five after seven", changed(7).undo(), 5);
            same("five after thirteen", changed(13).undo(), 5);
            CakeDivision full = changed(6);
            full.undo();
            full.give(0, 0, 23);
            same("five after six again", full.undo(), 5);
        });
        says("Throws `IllegalStateException` if there is none", () -> {
            refused("undo of a new object", CakeDivision::new, NO_STATE, cake -> cake.undo());
            refused("undo after all are undone", Busy::cakeWithoutHistory, NO_STATE, cake -> cake.undo());
            refused("undo after load", () -> Cakes.of(Busy.FIRST), NO_STATE, cake -> cake.undo());
            refused("undo after restore", MemoryChapter::restored, NO_STATE, cake -> cake.undo());
            refused("undo of the seventh", MemoryChapter::undoneSix, NO_STATE, cake -> cake.undo());
            refused("undo after refused changes only", CakeDivision::new, NO_STATE, cake -> {
                check.throwing("give", NO_INDEX, () -> cake.give(3, 0, 0));
                check.throwing("swapShares", NO_STATE, () -> cake.swapShares(0, 0));
                cake.undo();
            });
            refused("undo after calls that are no changes", MemoryChapter::askedOnly, NO_STATE, cake -> cake.undo());
        });
    }

    private static CakeDivision askedOnly() {
        CakeDivision cake = first();
        cake.append(0, 0, 0, 0, 0);
        cake.truncate(0);
        cake.welfareByKnife(0);
        cake.welfareByRobin(0, 0);
        cake.bestFirst();
        cake.save(0);
        cake.save(1);
        cake.writeOwners();
        return cake;
    }

    private static CakeDivision restored() {
        CakeDivision cake = Busy.cake();
        cake.restore(0);
        return cake;
    }

    private static CakeDivision undoneSix() {
        CakeDivision cake = first();
        for (int cell = 0; cell < 7; cell++) {
            cake.give(0, cell, cell);
        }
        for (int left = 5; left >= 0; left--) {
            cake.undo();
        }
        return cake;
    }

    private void save() {
        in("Promise 55: save");
        says("Saves the state and replaces what was saved in the slot before.", () -> {
            CakeDivision cake = first();
            cake.give(0, 0, 0);
            cake.setValue(0, 0, 9);
            cake.save(0);
            cake.save(1);
            cake.give(1, 1, 7);
            cake.setValue(0, 0, 5);
            cake.save(0);
            cake.release(0, 7);
            cake.restore(0);
            same("the owners of slot 0", Cakes.owners(cake), "01111111");
            same("the value of slot 0", cake.value(0, 0), 5);
            cake.restore(1);
            same("the owners of slot 1", Cakes.owners(cake), "0-------");
            same("the value of slot 1", cake.value(0, 0), 9);
            CakeDivision busy = Busy.cake();
            busy.save(0);
            same("save is no change", busy.undo(), 3);
        });
        says(SLOT, () -> {
            for (int slot = 0; slot < 2; slot++) {
                CakeDivision cake = first();
                cake.save(slot);
                cake.give(0, 0, 0);
                same("restore", cake.restore(slot), 8);
                int other = 1 - slot;
                check.throwing("restore of the other slot", NO_STATE, () -> cake.restore(other));
            }
        });
        says("Returns the number of free cells.", () -> {
            same("all of 24", greatest().save(0), 24);
            same("none of one", shared(Busy.SMALLEST, "0").save(1), 0);
            same("one of eight", shared(Busy.FIRST, "0000000-").save(1), 1);
        });
        says(NO_SLOT, () -> refusedFor("save", NO_SLOTS, NO_INDEX, (cake, slot) -> cake.save(slot)));
    }

    private void restore() {
        in("Promise 56: restore");
        says("Restores a saved state, which stays saved, and clears the undo history.", () -> {
            CakeDivision cake = shared(Busy.FIRST, "0-1");
            cake.setValue(2, 7, 9);
            cake.save(1);
            for (int again = 0; again < 3; again++) {
                cake.divideAndChoose(0, 1);
                cake.setValue(2, 7, again);
                same("restore(1)", cake.restore(1), 6);
                same("the owners", Cakes.owners(cake), "0-1-----");
                same("the value", cake.value(2, 7), 9);
                check.throwing("undo", NO_STATE, () -> cake.undo());
            }
            cake.give(2, 5, 5);
            same("undo of a later change", cake.undo(), 0);
            same("the owners after it", Cakes.owners(cake), "0-1-----");
            cake.save(0);
            cake.give(2, 5, 5);
            cake.restore(0);
            same("the other slot stays saved", cake.restore(1), 6);
            sixChangesAfterRestore();
        });
        says(SLOT, () -> {
            CakeDivision cake = first();
            cake.save(0);
            cake.give(0, 0, 0);
            cake.save(1);
            same("slot 0", cake.restore(0), 8);
            same("slot 1", cake.restore(1), 7);
            same("slot 0 again", cake.restore(0), 8);
        });
        says("Returns the number of free cells of the restored state.", () -> {
            CakeDivision cake = greatest();
            cake.save(0);
            cake.give(5, 0, 23);
            cake.save(1);
            same("all of 24", cake.restore(0), 24);
            same("none of 24", cake.restore(1), 0);
        });
        says(NO_SLOT, () -> refusedFor("restore", NO_SLOTS, NO_INDEX, (cake, slot) -> cake.restore(slot)));
        says("Throws `IllegalStateException` if nothing is saved in the slot", () -> {
            for (int slot = 0; slot < 2; slot++) {
                int same = slot;
                refused("restore of a new object", CakeDivision::new, NO_STATE, cake -> cake.restore(same));
                refused("restore after changes", Busy::cakeWithoutSavedStates, NO_STATE, cake -> cake.restore(same));
                refused("restore beside a saved state", () -> savedIn(1 - same), NO_STATE, cake -> cake.restore(same));
                refused("restore after load", MemoryChapter::loadedAgain, NO_STATE, cake -> cake.restore(same));
            }
        });
    }

    private void sixChangesAfterRestore() {
        CakeDivision cake = Busy.cake();
        cake.restore(0);
        for (int change = 0; change < 6; change++) {
            cake.give(0, change, change);
        }
        for (int left = 5; left >= 0; left--) {
            same("undo after restore", cake.undo(), left);
        }
        same("the restored owners", Cakes.owners(cake), "2222----");
    }

    private static CakeDivision savedIn(int slot) {
        CakeDivision cake = Busy.cakeWithoutSavedStates();
        cake.save(slot);
        return cake;
    }

    private static CakeDivision loadedAgain() {
        CakeDivision cake = Busy.cake();
        cake.truncate(0);
        Cakes.load(cake, Busy.FIRST);
        return cake;
    }

    private void writeOwners() {
        in("Promise 57: writeOwners");
        says("Writes the owners to the output text, which is replaced.", () -> {
            CakeDivision cake = shared(Busy.FIRST, "01010101");
            cake.writeOwners();
            same("a long text", Cakes.output(cake), "1ann 1bob 1ann 1bob 1ann 1bob 1ann 1bob");
            cake.release(0, 7);
            same("the text stays until the next call", Cakes.output(cake).length(), 39);
            cake.writeOwners();
            same("a short text", Cakes.output(cake), "8-");
            cake.movingKnife();
            cake.writeOwners();
            same("a longer text", Cakes.output(cake), "1bob 4ann 3cid");
        });
        says("Each maximal run of cells with the same owner contributes its length in decimal, followed by the name of "
            + "the owner, or by a hyphen (byte 45) if the cells are free.", () -> {
            written(Busy.SMALLEST, "-", "1-");
            written(Busy.SMALLEST, "0", "1a");
            written(Busy.GREATEST, "5".repeat(9), "9f 15-");
            written(Busy.GREATEST, "5".repeat(10), "10f 14-");
            written(Busy.GREATEST, "5".repeat(11) + "0", "11f 1a 12-");
            written(Busy.GREATEST, "0".repeat(19), "19a 5-");
            written(Busy.GREATEST, "0".repeat(20), "20a 4-");
            written(Busy.GREATEST, "0".repeat(23), "23a 1-");
            written(Busy.GREATEST, "0".repeat(24), "24a");
            written(Busy.GREATEST, "-", "24-");
            written(Busy.FIRST, "0110--22", "1ann 2bob 1ann 2- 2cid");
            written("cake 3;sibling abcdef 1 1 1;sibling zyxwvu 1 1 1;", "010", "1abcdef 1zyxwvu 1abcdef");
            CakeDivision cake = first();
            cake.writeOwners();
            same("the hyphen", cake.outputByte(1), 45);
        });
        says("The runs appear from left to right with one space (byte 32) between them.", () -> {
            written(Busy.FIRST, "------01", "6- 1ann 1bob");
            written(Busy.FIRST, "10------", "1bob 1ann 6-");
            CakeDivision cake = shared(Busy.FIRST, "0-------");
            cake.writeOwners();
            same("the space", cake.outputByte(4), 32);
            same("no space before the first run", cake.outputByte(0), '1');
            same("no space behind the last run", cake.outputByte(6), '-');
            check.throwing("the byte behind it", NO_INDEX, () -> cake.outputByte(7));
        });
        says("Returns the length of the output text in bytes.", () -> {
            same("the least", smallest().writeOwners(), 2);
            same("24 free cells", greatest().writeOwners(), 3);
            String names = "cake 24;sibling abcdef" + " 1".repeat(24) + ";sibling ghijkl" + " 1".repeat(24) + ";";
            CakeDivision cake = shared(names, "01".repeat(12));
            same("the greatest", cake.writeOwners(), 191);
            same("the greatest text", Cakes.output(cake), "1abcdef 1ghijkl ".repeat(12).trim());
            same("the same again", cake.writeOwners(), 191);
        });
    }

    private void written(String setup, String owners, String due) {
        CakeDivision cake = shared(setup, owners);
        same("the length of '" + due + "'", cake.writeOwners(), due.length());
        same("the text", Cakes.output(cake), due);
    }

    private void outputByte() {
        in("Promise 58: outputByte");
        plain("Returns a byte of the output text.");
        says("- `index`: position in the output text, from 0", () -> {
            // The busy cake's text is 1bob 4ann 3cid.
            same("the first", Busy.cake().outputByte(0), '1');
            same("the second", Busy.cake().outputByte(1), 'b');
            same("the last", Busy.cake().outputByte(13), 'd');
            CakeDivision cake = shared(Busy.GREATEST, "05".repeat(12));
            same("24 runs", cake.writeOwners(), 71);
            same("the last of 71", cake.outputByte(70), 'f');
        });
        says("Returns the byte.", () -> {
            CakeDivision cake = shared("cake 2;sibling az 1 1;", "0-");
            cake.writeOwners();
            int[] due = {49, 97, 122, 32, 49, 45};
            for (int index = 0; index < due.length; index++) {
                same("outputByte(" + index + ")", cake.outputByte(index), due[index]);
            }
        });
        says("Throws `IndexOutOfBoundsException` if index is out of range or nothing was written yet", () -> {
            refusedFor("outputByte", new int[] {Integer.MIN_VALUE, -1, 14, 15, 600, Integer.MAX_VALUE}, NO_INDEX,
                (cake, index) -> cake.outputByte(index));
            for (int index : new int[] {Integer.MIN_VALUE, -1, 0, 1, Integer.MAX_VALUE}) {
                refused("outputByte of nothing", CakeDivision::new, NO_INDEX, cake -> cake.outputByte(index));
            }
            CakeDivision shorter = shared(Busy.FIRST, "01010101");
            shorter.writeOwners();
            shorter.release(0, 7);
            shorter.writeOwners();
            check.throwing("a byte of the text before", NO_INDEX, () -> shorter.outputByte(2));
            check.throwing("the last byte of the text before", NO_INDEX, () -> shorter.outputByte(38));
        });
    }
}

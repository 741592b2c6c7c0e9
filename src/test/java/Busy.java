/**
 * An object in which everything is in use that a call could spoil: cells that are owned and cells that are free, four
 * changes that can be undone, both slots, an error, an output text and a buffer that is not empty.
 */
final class Busy {
    static final String SMALLEST = "cake 1;sibling a 1;";
    static final String FIRST = "cake 8;sibling ann 1 2 3 4 4 3 2 1;sibling bob 9 0 0 0 0 0 0 9;"
        + "sibling cid 1 1 1 1 1 1 1 1;";
    static final String GREATEST = greatest();
    static final Size[] SIZES = {new Size(SMALLEST, 1, 1), new Size(FIRST, 8, 3), new Size(GREATEST, 24, 6)};

    record Size(String setup, int cells, int siblings) {
    }

    private Busy() {
    }

    /** Sibling s values cell c with the last digit of s + c. */
    private static String greatest() {
        StringBuilder setup = new StringBuilder("cake 24;");
        for (int sibling = 0; sibling < 6; sibling++) {
            setup.append("sibling ").append((char) ('a' + sibling));
            for (int cell = 0; cell < 24; cell++) {
                setup.append(' ').append((sibling + cell) % 10);
            }
            setup.append(';');
        }
        return setup.toString();
    }

    static CakeDivision cake() {
        return cake(FIRST);
    }

    static CakeDivision cake(String setup) {
        CakeDivision cake = Cakes.of(setup);
        int lastCell = cake.cellCount() - 1;
        int lastSibling = cake.siblingCount() - 1;
        cake.give(lastSibling, 0, lastCell / 2);
        cake.save(0);
        cake.setValue(lastSibling, lastCell, 7);
        cake.save(1);
        cake.movingKnife();
        cake.writeOwners();
        cake.release(lastCell, lastCell);
        refuseScript(cake);
        Cakes.type(cake, Cakes.name(cake, lastSibling));
        return cake;
    }

    private static void refuseScript(CakeDivision cake) {
        Cakes.type(cake, "knife;robin nobody;");
        try {
            cake.runScript();
        } catch (IllegalArgumentException expected) {
            return;
        }
        throw new IllegalStateException("a script with the name of nobody was read");
    }

    static CakeDivision cakeWithFullBuffer() {
        CakeDivision cake = cake();
        cake.truncate(0);
        Cakes.type(cake, " ".repeat(600));
        return cake;
    }

    static CakeDivision cakeWithUnknownName() {
        CakeDivision cake = cake();
        cake.truncate(0);
        Cakes.type(cake, "nobody");
        return cake;
    }

    static CakeDivision cakeWithoutSavedStates() {
        CakeDivision cake = new CakeDivision();
        cake.movingKnife();
        cake.writeOwners();
        cake.release(7, 7);
        return cake;
    }

    static CakeDivision cakeWithoutHistory() {
        CakeDivision cake = cake();
        for (int left = 4; left > 0; left--) {
            cake.undo();
        }
        return cake;
    }

    /** All that an object holds. To find the history and the saved states, they are used up. */
    static String probe(CakeDivision cake) {
        return Cakes.describe(cake) + " findSibling " + found(cake) + memory(cake);
    }

    /** All but the buffer, the error code and the error position. */
    static String probeState(CakeDivision cake) {
        StringBuilder text = new StringBuilder();
        text.append(cake.cellCount()).append(Cakes.output(cake));
        int siblings = cake.siblingCount();
        for (int sibling = 0; sibling < siblings; sibling++) {
            text.append(' ').append(Cakes.name(cake, sibling)).append(' ').append(Cakes.values(cake, sibling));
        }
        return text.append(step(cake)).append(memory(cake)).toString();
    }

    private static String found(CakeDivision cake) {
        try {
            return String.valueOf(cake.findSibling());
        } catch (java.util.NoSuchElementException notFound) {
            return "nobody";
        }
    }

    private static String memory(CakeDivision cake) {
        StringBuilder text = new StringBuilder();
        try {
            for (int undone = 0; undone < 10; undone++) {
                text.append(" undo ").append(cake.undo()).append(step(cake));
            }
        } catch (IllegalStateException allUndone) {
            text.append(" no more");
        }
        for (int slot = 0; slot < 2; slot++) {
            try {
                text.append(" restore ").append(cake.restore(slot)).append(step(cake));
            } catch (IllegalStateException nothingSaved) {
                text.append(" nothing in ").append(slot);
            }
        }
        return text.toString();
    }

    /** Owners and totals: the changes of a busy cake and of the tests show in them. */
    private static String step(CakeDivision cake) {
        StringBuilder text = new StringBuilder(" ").append(Cakes.owners(cake));
        int siblings = cake.siblingCount();
        for (int sibling = 0; sibling < siblings; sibling++) {
            text.append(' ').append(cake.total(sibling));
        }
        return text.toString();
    }
}

/** What the tests do often with a CakeDivision. */
final class Cakes {
    private static final int APPENDED = 20;
    private static final int MAX_TEXT = 600;

    private Cakes() {
    }

    /** A setup in which all siblings value all cells the same; their names are a, b, c and so on. */
    static String equal(int cells, int siblings, int value) {
        StringBuilder setup = new StringBuilder("cake " + cells + ";");
        for (int sibling = 0; sibling < siblings; sibling++) {
            setup.append("sibling ").append((char) ('a' + sibling));
            setup.append((" " + value).repeat(cells)).append(';');
        }
        return setup.toString();
    }

    /** A new object with this setup. */
    static CakeDivision of(String setup) {
        CakeDivision cake = new CakeDivision();
        load(cake, setup);
        return cake;
    }

    /** Puts the text into the buffer, which must be empty. */
    static void type(CakeDivision cake, String text) {
        for (int from = 0; from < text.length(); from += APPENDED) {
            cake.append(pack(text, from), pack(text, from + 4), pack(text, from + 8), pack(text, from + 12),
                pack(text, from + 16));
        }
        cake.truncate(text.length());
    }

    private static int pack(String text, int from) {
        int packed = 0;
        for (int index = from; index < from + 4; index++) {
            packed = packed << 8 | (index < text.length() ? text.charAt(index) : 0);
        }
        return packed;
    }

    static int load(CakeDivision cake, String text) {
        type(cake, text);
        return cake.load();
    }

    static int run(CakeDivision cake, String text) {
        type(cake, text);
        return cake.runScript();
    }

    /** The owner of every cell, a digit for each, a hyphen for a free cell. */
    static String owners(CakeDivision cake) {
        StringBuilder owners = new StringBuilder();
        int cells = cake.cellCount();
        for (int cell = 0; cell < cells; cell++) {
            int owner = cake.owner(cell);
            owners.append(owner == CakeDivision.NONE ? "-" : String.valueOf(owner));
        }
        return owners.toString();
    }

    /** Gives every cell to the sibling that the text of owners() tells. */
    static void share(CakeDivision cake, String owners) {
        for (int cell = 0; cell < owners.length(); cell++) {
            if (owners.charAt(cell) == '-') {
                cake.release(cell, cell);
            } else {
                cake.give(owners.charAt(cell) - '0', cell, cell);
            }
        }
    }

    /** A cake in which sibling i owns cell i and envies just those whose digits the i-th text tells. */
    static CakeDivision envying(String... envied) {
        StringBuilder setup = new StringBuilder("cake " + envied.length + ";");
        for (int sibling = 0; sibling < envied.length; sibling++) {
            setup.append("sibling ").append((char) ('a' + sibling));
            for (int cell = 0; cell < envied.length; cell++) {
                boolean envies = envied[sibling].indexOf('0' + cell) >= 0;
                setup.append(cell == sibling ? " 3" : envies ? " 4" : " 2");
            }
            setup.append(';');
        }
        CakeDivision cake = of(setup.toString());
        share(cake, "012345".substring(0, envied.length));
        return cake;
    }

    static String values(CakeDivision cake, int sibling) {
        StringBuilder values = new StringBuilder();
        int cells = cake.cellCount();
        for (int cell = 0; cell < cells; cell++) {
            values.append(cake.value(sibling, cell));
        }
        return values.toString();
    }

    static String name(CakeDivision cake, int sibling) {
        StringBuilder name = new StringBuilder();
        try {
            for (int index = 0; index < 100; index++) {
                name.append((char) cake.nameByte(sibling, index));
            }
        } catch (IndexOutOfBoundsException atTheEnd) {
            return name.toString();
        }
        return name.toString();
    }

    static String output(CakeDivision cake) {
        StringBuilder output = new StringBuilder();
        try {
            for (int index = 0; index < 1000; index++) {
                output.append((char) cake.outputByte(index));
            }
        } catch (IndexOutOfBoundsException atTheEnd) {
            return output.toString();
        }
        return output.toString();
    }

    /** Appending tells the length and truncating takes back what was appended, unless the buffer is too full. */
    static int bufferLength(CakeDivision cake) {
        try {
            return cake.truncate(cake.append(0, 0, 0, 0, 0) - APPENDED);
        } catch (IllegalStateException tooFull) {
            return lengthOfFullBuffer(cake);
        }
    }

    /** A greater length than that of the buffer is refused, and its own length changes nothing. */
    private static int lengthOfFullBuffer(CakeDivision cake) {
        for (int length = MAX_TEXT; length > MAX_TEXT - APPENDED; length--) {
            try {
                return cake.truncate(length);
            } catch (IllegalArgumentException tooLong) {
                continue;
            }
        }
        return CakeDivision.NONE;
    }

    /** All that can be asked without a change, but for the undo history and the saved states. */
    static String describe(CakeDivision cake) {
        StringBuilder text = new StringBuilder();
        text.append(cake.cellCount()).append(" cells ").append(owners(cake));
        int siblings = cake.siblingCount();
        for (int sibling = 0; sibling < siblings; sibling++) {
            text.append(' ').append(name(cake, sibling)).append(' ').append(values(cake, sibling));
        }
        text.append(" error ").append(cake.errorCode()).append(" at ").append(cake.errorPosition());
        text.append(" buffer ").append(bufferLength(cake)).append(" output ").append(output(cake));
        return text.toString();
    }
}

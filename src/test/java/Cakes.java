/** What the tests do often with a CakeDivision. */
final class Cakes {
    private static final int APPENDED = 20;

    private Cakes() {
    }

    /** A new object with this setup. */
    static CakeDivision of(String setup) {
        CakeDivision cake = new CakeDivision();
        load(cake, setup);
        return cake;
    }

    /** Puts the text into the buffer, which must be empty. */
    static void type(CakeDivision cake, String text) {
        for (int from = 0; from < text.length(); from += APPENDED) {
            cake.append(pack(text, from), pack(text, from + 4), pack(text, from + 8), pack(text, from + 12),
                pack(text, from + 16));
        }
        cake.truncate(text.length());
    }

    private static int pack(String text, int from) {
        int packed = 0;
        for (int index = from; index < from + 4; index++) {
            packed = packed << 8 | (index < text.length() ? text.charAt(index) : 0);
        }
        return packed;
    }

    static int load(CakeDivision cake, String text) {
        type(cake, text);
        return cake.load();
    }

    static int run(CakeDivision cake, String text) {
        type(cake, text);
        return cake.runScript();
    }

    /** The owner of every cell, a digit for each, a hyphen for a free cell. */
    static String owners(CakeDivision cake) {
        StringBuilder owners = new StringBuilder();
        for (int cell = 0; cell < cake.cellCount(); cell++) {
            int owner = cake.owner(cell);
            owners.append(owner == CakeDivision.NONE ? "-" : String.valueOf(owner));
        }
        return owners.toString();
    }

    /** Gives every cell to the sibling that the text of owners() tells. */
    static void share(CakeDivision cake, String owners) {
        for (int cell = 0; cell < owners.length(); cell++) {
            if (owners.charAt(cell) == '-') {
                cake.release(cell, cell);
            } else {
                cake.give(owners.charAt(cell) - '0', cell, cell);
            }
        }
    }

    static String values(CakeDivision cake, int sibling) {
        StringBuilder values = new StringBuilder();
        for (int cell = 0; cell < cake.cellCount(); cell++) {
            values.append(cake.value(sibling, cell));
        }
        return values.toString();
    }

    static String name(CakeDivision cake, int sibling) {
        StringBuilder name = new StringBuilder();
        try {
            for (int index = 0; index < 100; index++) {
                name.append((char) cake.nameByte(sibling, index));
            }
        } catch (IndexOutOfBoundsException atTheEnd) {
            return name.toString();
        }
        return name.toString();
    }

    static String output(CakeDivision cake) {
        StringBuilder output = new StringBuilder();
        try {
            for (int index = 0; index < 1000; index++) {
                output.append((char) cake.outputByte(index));
            }
        } catch (IndexOutOfBoundsException atTheEnd) {
            return output.toString();
        }
        return output.toString();
    }

    /** A greater length than that of the buffer is refused, and its own length changes nothing. */
    static int bufferLength(CakeDivision cake) {
        for (int length = 600; length > 0; length--) {
            try {
                return cake.truncate(length);
            } catch (IllegalArgumentException tooLong) {
                continue;
            }
        }
        return 0;
    }

    /** All that can be asked without a change, but for the undo history and the saved states. */
    static String describe(CakeDivision cake) {
        StringBuilder text = new StringBuilder();
        text.append(cake.cellCount()).append(" cells ").append(owners(cake));
        for (int sibling = 0; sibling < cake.siblingCount(); sibling++) {
            text.append(' ').append(name(cake, sibling)).append(' ').append(values(cake, sibling));
        }
        text.append(" error ").append(cake.errorCode()).append(" at ").append(cake.errorPosition());
        text.append(" buffer ").append(bufferLength(cake)).append(" output ").append(output(cake));
        return text.toString();
    }
}

/** Promises 1 to 6 and 10, without the texts that have an error: the new object, the buffer, the setup text. */
public final class InputTest {
    private static final Check CHECK = new Check("InputTest");

    public static void main(String[] args) {
        newObject();
        append();
        truncate();
        load();
        loadForgets();
        greatestSetup();
        separators();
        refusedLoad();
        findSibling();
        CHECK.finish();
    }

    private static void newObject() {
        CakeDivision cake = new CakeDivision();
        CHECK.same("a new object", Cakes.describe(cake),
            "8 cells -------- ann 12344321 bob 90000009 cid 11111111 error 0 at -1 buffer 0 output ");
        CHECK.throwing("undo() on a new object", IllegalStateException.class, () -> cake.undo());
        CHECK.throwing("restore(0) on a new object", IllegalStateException.class, () -> cake.restore(0));
        CHECK.throwing("restore(1) on a new object", IllegalStateException.class, () -> cake.restore(1));
        CakeDivision other = new CakeDivision();
        other.give(0, 0, 7);
        CHECK.same("another object's cells", Cakes.owners(cake), "--------");
    }

    private static void append() {
        CakeDivision cake = new CakeDivision();
        Cakes.load(cake, "cake 1;sibling abcdef 1;");
        int abcd = 0x61626364;
        CHECK.same("append", cake.append(abcd, 0x65662020, -1, 0x80808080, 0), 20);
        CHECK.same("append again", cake.append(0, 0, 0, 0, 0), 40);
        cake.truncate(6);
        CHECK.same("the first bytes", cake.findSibling(), 0);
        // The last argument's bytes come last: 14 separators, then the name of a script's command.
        cake.truncate(0);
        cake.append(0x20202020, 0x0a0a0a0a, 0x20202020, 0x20206b6e, 0x6966653b);
        CHECK.same("a script in the last bytes", cake.runScript(), 1);
        fill();
    }

    private static void fill() {
        CakeDivision cake = new CakeDivision();
        for (int length = 20; length <= 600; length += 20) {
            CHECK.same("append up to " + length, cake.append(1, 2, 3, 4, 5), length);
        }
        CHECK.refused("append over 600", cake, IllegalStateException.class, () -> cake.append(1, 2, 3, 4, 5));
        cake.truncate(581);
        CHECK.refused("append over 581", cake, IllegalStateException.class, () -> cake.append(1, 2, 3, 4, 5));
        cake.truncate(580);
        CHECK.same("append up to 600 again", cake.append(1, 2, 3, 4, 5), 600);
    }

    private static void truncate() {
        CakeDivision cake = new CakeDivision();
        CHECK.same("truncate(0) of nothing", cake.truncate(0), 0);
        CHECK.refused("truncate(1) of nothing", cake, IllegalArgumentException.class, () -> cake.truncate(1));
        cake.append(0x626f6262, 0, 0, 0, 0);
        CHECK.refused("truncate(21)", cake, IllegalArgumentException.class, () -> cake.truncate(21));
        CHECK.refused("truncate(-1)", cake, IllegalArgumentException.class, () -> cake.truncate(-1));
        CHECK.refused("truncate(least)", cake, IllegalArgumentException.class,
            () -> cake.truncate(Integer.MIN_VALUE));
        CHECK.same("truncate(20)", cake.truncate(20), 20);
        CHECK.same("truncate(3)", cake.truncate(3), 3);
        CHECK.same("the bytes that stay", cake.findSibling(), 1);
        CHECK.same("append after truncate", cake.append(0, 0, 0, 0, 0), 23);
    }

    private static void load() {
        CakeDivision cake = new CakeDivision();
        CHECK.same("load", Cakes.load(cake, "cake 2;sibling x 0 9;sibling y 5 6;"), 2);
        CHECK.same("after load", Cakes.describe(cake), "2 cells -- x 09 y 56 error 0 at -1 buffer 0 output ");
        cake.give(1, 0, 1);
        CHECK.same("load one cell", Cakes.load(cake, "cake 1;sibling z 3;"), 1);
        CHECK.same("after load of one cell", Cakes.describe(cake), "1 cells - z 3 error 0 at -1 buffer 0 output ");
        CHECK.same("load with a leading 0", Cakes.load(cake, "cake 02;sibling a 07 00;"), 1);
        CHECK.same("values with a leading 0", Cakes.values(cake, 0), "70");
    }

    private static void loadForgets() {
        CakeDivision cake = new CakeDivision();
        cake.give(0, 0, 3);
        cake.save(0);
        cake.save(1);
        cake.writeOwners();
        Cakes.load(cake, "cake 8;sibling ann 1 1 1 1 1 1 1 1;");
        CHECK.same("all cells are free after load", Cakes.owners(cake), "--------");
        CHECK.throwing("undo() after load", IllegalStateException.class, () -> cake.undo());
        CHECK.throwing("restore(0) after load", IllegalStateException.class, () -> cake.restore(0));
        CHECK.throwing("restore(1) after load", IllegalStateException.class, () -> cake.restore(1));
        CHECK.same("the output after load", Cakes.output(cake), "4ann 4-");
    }

    private static void greatestSetup() {
        StringBuilder text = new StringBuilder("cake 24;");
        for (int sibling = 0; sibling < 6; sibling++) {
            text.append("sibling abcde").append((char) ('a' + sibling)).append(" 9".repeat(24)).append(';');
        }
        while (text.length() < 600) {
            text.append('\n');
        }
        CakeDivision cake = new CakeDivision();
        CHECK.same("load of 600 bytes", Cakes.load(cake, text.toString()), 6);
        CHECK.same("24 cells", cake.cellCount(), 24);
        CHECK.same("6 siblings", cake.siblingCount(), 6);
        CHECK.same("the last name", Cakes.name(cake, 5), "abcdef");
        CHECK.same("the last value", cake.value(5, 23), 9);
    }

    private static void separators() {
        CakeDivision cake = new CakeDivision();
        CHECK.same("load without separators", Cakes.load(cake, "cake3;sibling a1 2 3;"), 1);
        CHECK.same("its values", Cakes.values(cake, 0), "123");
        CHECK.same("load with many separators", Cakes.load(cake, "  cake\n2 ;\n\n sibling\n b 4\n5\n;\n "), 1);
        CHECK.same("its values", Cakes.values(cake, 0), "45");
        CHECK.same("a name from the grammar", Cakes.load(cake, "cake 1;sibling cake 1;sibling knife 2;"), 2);
        CHECK.same("that name", Cakes.name(cake, 0), "cake");
    }

    private static void refusedLoad() {
        CakeDivision cake = new CakeDivision();
        cake.give(1, 2, 3);
        cake.save(1);
        cake.writeOwners();
        Cakes.type(cake, "cake 1;sibling z 3;sibling z 3;");
        CHECK.throwing("load", IllegalArgumentException.class, () -> cake.load());
        CHECK.same("after a refused load", Cakes.describe(cake),
            "8 cells --11---- ann 12344321 bob 90000009 cid 11111111 error 3 at 27 buffer 0 output 2- 2bob 4-");
        CHECK.same("restore after a refused load", cake.restore(1), 6);
        cake.give(0, 0, 0);
        Cakes.type(cake, "cake");
        CHECK.throwing("load", IllegalArgumentException.class, () -> cake.load());
        CHECK.same("undo after a refused load", cake.undo(), 0);
        Cakes.load(cake, "cake 1;sibling z 3;");
        CHECK.same("the code after a good load", cake.errorCode(), 0);
        CHECK.same("the position after a good load", cake.errorPosition(), -1);
    }

    private static void findSibling() {
        CakeDivision cake = Cakes.of("cake 1;sibling a 1;sibling ab 1;sibling abcdef 1;");
        String[] found = {"a", "ab", "abcdef"};
        for (int sibling = 0; sibling < found.length; sibling++) {
            Cakes.type(cake, found[sibling]);
            CHECK.same("findSibling of " + found[sibling], cake.findSibling(), sibling);
            CHECK.same("the buffer stays", Cakes.bufferLength(cake), found[sibling].length());
            cake.truncate(0);
        }
        for (String missing : new String[] {"", "b", "abc", "ab ", " ab", "abcdefg", "A", "abcdeg"}) {
            Cakes.type(cake, missing);
            CHECK.refused("findSibling of '" + missing + "'", cake, java.util.NoSuchElementException.class,
                () -> cake.findSibling());
            cake.truncate(0);
        }
    }
}

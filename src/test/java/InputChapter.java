/** Promises 1 to 6 and 10: the new object, the buffer and the setup texts. */
final class InputChapter extends Chapter {
    private static final int SPACES = 0x20202020;

    InputChapter(Sentences sentences, Check check) {
        super(sentences, check);
    }

    @Override
    void test() {
        newObject();
        append();
        truncate();
        load();
        errorCode();
        errorPosition();
        findSibling();
    }

    private void newObject() {
        in("Promise 1: A new object");
        says("Creates the cake of the setup text \"cake 8;sibling ann 1 2 3 4 4 3 2 1;sibling bob 9 0 0 0 0 0 0 "
            + "9;sibling cid 1 1 1 1 1 1 1 1;\".", () -> {
            same("a new object", Cakes.describe(first()),
                "8 cells -------- ann 12344321 bob 90000009 cid 11111111 error 0 at -1 buffer 0 output ");
            same("the setup", Busy.probe(first()), Busy.probe(Cakes.of(Busy.FIRST)));
        });
        says("All cells are free, the input buffer is empty and nothing is saved.", () -> {
            same("the free cells", first().freeCount(), 8);
            same("the owner of the first cell", first().owner(0), NONE);
            same("the owner of the last cell", first().owner(7), NONE);
            same("the length of the buffer", first().append(0, 0, 0, 0, 0), 20);
            refused("truncate(1)", CakeDivision::new, NO_ARGUMENT, cake -> cake.truncate(1));
            refused("restore(0)", CakeDivision::new, NO_STATE, cake -> cake.restore(0));
            refused("restore(1)", CakeDivision::new, NO_STATE, cake -> cake.restore(1));
            refused("undo", CakeDivision::new, NO_STATE, cake -> cake.undo());
            refused("outputByte(0)", CakeDivision::new, NO_INDEX, cake -> cake.outputByte(0));
        });
    }

    private void append() {
        in("Promise 2: append");
        says("Appends 20 bytes to the input buffer: the four bytes of each argument, the most significant byte first.",
            () -> {
                CakeDivision cake = Cakes.of("cake 1;sibling abcd 1;sibling abcdef 1;sibling dcba 1;");
                cake.append(0x61626364, 0x65666768, 0x80808080, Integer.MIN_VALUE, -1);
                cake.truncate(6);
                same("six bytes", cake.findSibling(), 1);
                cake.truncate(4);
                same("four bytes", cake.findSibling(), 0);
                cake.append(0, 0, 0, 0, 0);
                same("behind what is there", cake.truncate(4), 4);
                same("the four bytes stay", cake.findSibling(), 0);
                for (int sign : new int[] {0, 1, 127, 128, 129, 254, 255}) {
                    wrongByteAt(0, sign);
                    wrongByteAt(19, sign);
                }
            });
        says("- `a`: bytes 1 to 4", () -> bytesOf(0));
        says("- `b`: bytes 5 to 8", () -> bytesOf(1));
        says("- `c`: bytes 9 to 12", () -> bytesOf(2));
        says("- `d`: bytes 13 to 16", () -> bytesOf(3));
        says("- `e`: bytes 17 to 20", () -> bytesOf(4));
        says("Returns the new length of the buffer.", () -> {
            same("of an empty buffer", lengthAfterAppend(0), 20);
            same("of one byte", lengthAfterAppend(1), 21);
            same("of 19 bytes", lengthAfterAppend(19), 39);
            same("of 579 bytes", lengthAfterAppend(579), 599);
            same("of 580 bytes", lengthAfterAppend(580), 600);
        });
        says("Throws `IllegalStateException` if the new length would exceed 600", () -> {
            for (int length : new int[] {581, 582, 599, 600}) {
                refused("append to " + length + " bytes", () -> busyWith(length), NO_STATE,
                    cake -> cake.append(SPACES, SPACES, SPACES, SPACES, SPACES));
            }
            CakeDivision cake = busyWith(580);
            same("append to 580 bytes", cake.append(SPACES, SPACES, SPACES, SPACES, SPACES), 600);
            check.throwing("append once more", NO_STATE, () -> cake.append(0, 0, 0, 0, 0));
            same("the buffer is still full", cake.truncate(600), 600);
            same("and still a script", cake.runScript(), 0);
        });
    }

    private static CakeDivision busyWith(int length) {
        CakeDivision cake = Busy.cake();
        cake.truncate(0);
        Cakes.type(cake, " ".repeat(length));
        return cake;
    }

    private static int lengthAfterAppend(int length) {
        return busyWith(length).append(0, 0, 0, 0, 0);
    }

    /** The text is 20 spaces, but for one byte; the position of the error tells where that byte is. */
    private void wrongByteAt(int position, int sign) {
        int[] parts = {SPACES, SPACES, SPACES, SPACES, SPACES};
        int shift = 24 - 8 * (position % 4);
        parts[position / 4] = parts[position / 4] & ~(255 << shift) | sign << shift;
        CakeDivision cake = first();
        cake.append(parts[0], parts[1], parts[2], parts[3], parts[4]);
        check.throwing("a script with byte " + sign, NO_ARGUMENT, () -> cake.runScript());
        same("the position of byte " + sign, cake.errorPosition(), position);
    }

    private void bytesOf(int argument) {
        for (int index = 0; index < 4; index++) {
            wrongByteAt(4 * argument + index, '?');
            wrongByteAt(4 * argument + index, 255);
        }
    }

    private void truncate() {
        in("Promise 3: truncate");
        says("Truncates the input buffer.", () -> {
            CakeDivision cake = Cakes.of("cake 1;sibling abc 1;sibling ab 1;sibling a 1;");
            Cakes.type(cake, "abc");
            for (int length = 3; length > 0; length--) {
                cake.truncate(length);
                same("the first bytes stay", cake.findSibling(), 3 - length);
            }
            cake.truncate(0);
            same("nothing is left", cake.append(0, 0, 0, 0, 0), 20);
        });
        says("- `length`: new length of the buffer, 0 to its current length", () -> {
            same("0 of an empty buffer", first().truncate(0), 0);
            CakeDivision cake = first();
            cake.append(SPACES, SPACES, SPACES, SPACES, SPACES);
            same("the current length", cake.truncate(20), 20);
            same("one less", cake.truncate(19), 19);
            check.throwing("the length before", NO_ARGUMENT, () -> cake.truncate(20));
            same("1", cake.truncate(1), 1);
            same("0", cake.truncate(0), 0);
            CakeDivision full = busyWith(600);
            same("600 of 600", full.truncate(600), 600);
            same("599 of 600", full.truncate(599), 599);
        });
        says("Returns the new length.", () -> {
            CakeDivision cake = busyWith(600);
            for (int length : new int[] {600, 599, 581, 580, 20, 1, 0}) {
                same("truncate", cake.truncate(length), length);
            }
        });
        says("Throws `IllegalArgumentException` if length is out of range", () -> {
            // The buffer of the busy cake has three bytes.
            refusedFor("truncate", new int[] {Integer.MIN_VALUE, -1, 4, 20, 600, Integer.MAX_VALUE}, NO_ARGUMENT,
                (cake, length) -> cake.truncate(length));
            refused("truncate(601) of 600", () -> busyWith(600), NO_ARGUMENT, cake -> cake.truncate(601));
            refused("truncate(1) of 0", () -> busyWith(0), NO_ARGUMENT, cake -> cake.truncate(1));
            refused("truncate(-1) of 0", () -> busyWith(0), NO_ARGUMENT, cake -> cake.truncate(-1));
        });
    }

    private void load() {
        in("Promise 4: load");
        says("Parses the input buffer as a setup text and empties the buffer, also if the text has an error.", () -> {
            emptiedBy("", false);
            emptiedBy("?", false);
            emptiedBy("cake 1;sibling a 1;;", false);
            emptiedBy(" ".repeat(600), false);
            emptiedBy("cake 1;sibling a 1;", true);
            emptiedBy("cake 1;sibling a 1;" + " ".repeat(581), true);
        });
        says("A valid setup replaces the cake and the siblings, makes all cells free, discards the saved states, and "
            + "clears the undo history.", () -> {
            replaces(Busy.GREATEST, Busy.SMALLEST);
            replaces(Busy.SMALLEST, Busy.GREATEST);
            replaces(Busy.FIRST, Busy.GREATEST);
            replaces(Busy.FIRST, Busy.FIRST);
            replaces(Busy.FIRST, "cake 8;sibling bob 1 1 1 1 1 1 1 1;");
        });
        says("Returns the number of siblings.", () -> {
            same("one", Cakes.load(first(), Cakes.equal(24, 1, 9)), 1);
            same("two", Cakes.load(first(), Cakes.equal(1, 2, 9)), 2);
            same("six", Cakes.load(first(), Cakes.equal(1, 6, 9)), 6);
        });
        says("Throws `IllegalArgumentException` if the text has an error;", () -> {
            loadFails("", 1, 0);
            loadFails("cake 25;", 2, 5);
            loadFails("cake 1;sibling abcdefg 1;", 3, 15);
            loadFails(Cakes.equal(1, 7, 1), 4, 79);
            loads(Cakes.equal(1, 6, 1));
        });
        says("in this case only the buffer, the error code and the error position change", () -> {
            for (String text : new String[] {"", "cake 25;", "cake 1;sibling abcdefg 1;", Cakes.equal(24, 1, 7) + "?",
                "cake 1;sibling bob 1;sibling ann", Cakes.equal(1, 6, 0) + "sibling"}) {
                CakeDivision cake = busyWith(0);
                Cakes.type(cake, text);
                check.throwing("load of '" + text + "'", NO_ARGUMENT, () -> cake.load());
                same("the code changes", cake.errorCode() > 0, true);
                same("the state after '" + text + "'", Busy.probeState(cake), Busy.probeState(Busy.cake()));
            }
        });
    }

    private void emptiedBy(String text, boolean isValid) {
        CakeDivision cake = first();
        Cakes.type(cake, text);
        check.throwing("load of '" + text + "'", isValid ? null : NO_ARGUMENT, () -> cake.load());
        same("the next append", cake.append(0, 0, 0, 0, 0), 20);
    }

    private void replaces(String before, String after) {
        CakeDivision cake = Busy.cake(before);
        cake.truncate(0);
        String output = Cakes.output(cake);
        Cakes.load(cake, after);
        // Nothing but the output text is left of what was before.
        String due = Busy.probe(Cakes.of(after)).replace("output ", "output " + output);
        same("'" + after + "' after '" + before + "'", Busy.probe(cake), due);
    }

    private void errorCode() {
        in("Promise 5: errorCode");
        says("Returns the error code of the latest call of load() or runScript().", () -> latestError(true));
        says("Returns 1 to 4;", () -> {
            loadFails("?", 1, 0);
            loadFails("cake 0;", 2, 5);
            loadFails("cake 1;sibling abcdefg", 3, 15);
            loadFails(Cakes.equal(1, 7, 1), 4, 79);
            scriptFails("?", 1, 0);
            scriptFails("robin dan;", 3, 6);
            scriptFails("knife;".repeat(31), 4, 180);
        });
        says("0 if that text had no error or there was no such call.", () -> {
            same("no such call", first().errorCode(), 0);
            same("a setup", codeAfterErrorAnd("cake 1;sibling a 1;", true), 0);
            same("a script", codeAfterErrorAnd("knife;", false), 0);
            same("an empty script", codeAfterErrorAnd("", false), 0);
            same("a script that stops at once", codeAfterErrorAnd("swap ann ann;", false), 0);
        });
    }

    private static int codeAfterErrorAnd(String text, boolean isSetup) {
        return afterErrorAnd(text, isSetup).errorCode();
    }

    private static CakeDivision afterErrorAnd(String text, boolean isSetup) {
        CakeDivision cake = Busy.cake();
        cake.truncate(0);
        Cakes.type(cake, text);
        if (isSetup) {
            cake.load();
        } else {
            cake.runScript();
        }
        return cake;
    }

    private void latestError(boolean isCode) {
        CakeDivision cake = first();
        String[] texts = {"cake 0;", "cake 1", "cake 1;sibling abcdefg 1;"};
        int[] codes = {2, 1, 3};
        int[] positions = {5, 6, 15};
        for (int index = 0; index < texts.length; index++) {
            Cakes.type(cake, texts[index]);
            check.throwing("load", NO_ARGUMENT, () -> cake.load());
            same("after load", isCode ? cake.errorCode() : cake.errorPosition(),
                isCode ? codes[index] : positions[index]);
            Cakes.type(cake, " robin dan;");
            check.throwing("runScript", NO_ARGUMENT, () -> cake.runScript());
            same("after runScript", isCode ? cake.errorCode() : cake.errorPosition(), isCode ? 3 : 7);
        }
        cake.movingKnife();
        cake.save(0);
        cake.undo();
        cake.restore(0);
        check.throwing("undo", NO_STATE, () -> cake.undo());
        check.throwing("findSibling", NO_ELEMENT, () -> cake.findSibling());
        same("after other calls", isCode ? cake.errorCode() : cake.errorPosition(), isCode ? 3 : 7);
    }

    private void errorPosition() {
        in("Promise 6: errorPosition");
        says("Returns the error position of the latest call of load() or runScript().", () -> latestError(false));
        says("Returns the position in the text;", () -> {
            loadFails("?", 1, 0);
            loadFails("", 1, 0);
            loadFails(" ", 1, 1);
            loadFails(" ".repeat(599) + "?", 1, 599);
            loadFails(" ".repeat(600), 1, 600);
            scriptFails("?", 1, 0);
            scriptFails(" ".repeat(599) + "?", 1, 599);
            scriptFails(" ".repeat(595) + "knife", 1, 600);
        });
        says("-1 if that text had no error or there was no such call.", () -> {
            same("no such call", first().errorPosition(), -1);
            same("a setup", afterErrorAnd("cake 1;sibling a 1;", true).errorPosition(), -1);
            same("a script", afterErrorAnd("knife;", false).errorPosition(), -1);
            same("an empty script", afterErrorAnd("", false).errorPosition(), -1);
            same("a script that stops at once", afterErrorAnd("swap ann ann;", false).errorPosition(), -1);
        });
    }

    private void findSibling() {
        in("Promise 10: findSibling");
        says("Finds a sibling by its name.", () -> {
            same("the first", found("cake 1;sibling a 1;", "a"), 0);
            same("the last", found("cake 1;sibling a 1;sibling b 1;sibling c 1;sibling d 1;sibling e 1;sibling f 1;",
                "f"), 5);
            same("six letters", found("cake 1;sibling azazaz 1;", "azazaz"), 0);
        });
        says("Returns the number of the sibling whose name equals the whole input buffer, which stays unchanged.",
            () -> {
                String setup = "cake 1;sibling a 1;sibling abc 1;sibling ab 1;";
                same("the shortest of three", found(setup, "a"), 0);
                same("the one between", found(setup, "ab"), 2);
                same("the longest", found(setup, "abc"), 1);
                CakeDivision cake = Cakes.of(setup);
                Cakes.type(cake, "abc");
                cake.findSibling();
                same("findSibling again", cake.findSibling(), 1);
                same("the length that stays", cake.truncate(3), 3);
                cake.truncate(2);
                same("the bytes that stay", cake.findSibling(), 2);
            });
        says("Throws `NoSuchElementException` if no sibling has this name", () -> {
            for (String text : new String[] {"", "an", "anna", "annann", "annannn", "ann ", " ann", "ann\n", "ANN",
                "bod", "aid", "ann" + (char) 0, "a".repeat(600), " ".repeat(600)}) {
                refused("findSibling of '" + text + "'", () -> busyTyped(text), NO_ELEMENT,
                    cake -> cake.findSibling());
            }
            CakeDivision cake = Cakes.of(Busy.SMALLEST);
            Cakes.type(cake, "ann");
            check.throwing("a sibling of the cake before", NO_ELEMENT, () -> cake.findSibling());
        });
    }

    private static CakeDivision busyTyped(String text) {
        CakeDivision cake = busyWith(0);
        Cakes.type(cake, text);
        return cake;
    }

    private static int found(String setup, String name) {
        CakeDivision cake = Cakes.of(setup);
        Cakes.type(cake, name);
        return cake.findSibling();
    }
}

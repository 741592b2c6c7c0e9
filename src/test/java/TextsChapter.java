/** Of "Terms", the texts, their errors and the scripts. */
final class TextsChapter extends Chapter {
    private static final String SETUP = "cake 1;sibling a 1;";
    private static final String[] SHORT_WORDS = {"cake", "give", "free", "swap", "value", "divide", "knife", "robin",
        "rotate"};

    TextsChapter(Sentences sentences, Check check) {
        super(sentences, check);
    }

    @Override
    void test() {
        in("Terms");
        plain("Texts.", "Errors.");
        buffer();
        tokens();
        grammar();
        errors();
        codes();
        scripts();
    }

    private void buffer() {
        says("The input buffer holds at most 600 bytes.", () -> {
            loads(SETUP + " ".repeat(599 - SETUP.length()));
            loads(SETUP + " ".repeat(600 - SETUP.length()));
            runs(" ".repeat(594) + "knife;");
            CakeDivision cake = first();
            for (int length = 20; length <= 600; length += 20) {
                same("append", cake.append(0x20202020, 0x20202020, 0x20202020, 0x20202020, 0x20202020), length);
            }
            check.throwing("append to 600 bytes", NO_STATE, () -> cake.append(0, 0, 0, 0, 0));
            same("a script of 600 bytes", cake.runScript(), 0);
        });
        says("It is empty at first.", () -> {
            same("the first append", first().append(0, 0, 0, 0, 0), 20);
            check.throwing("truncate(1) at first", NO_ARGUMENT, () -> first().truncate(1));
            CakeDivision cake = first();
            check.throwing("load at first", NO_ARGUMENT, () -> cake.load());
            same("the text ends at once", cake.errorPosition(), 0);
            same("an empty script at first", first().runScript(), 0);
        });
    }

    private void tokens() {
        plain("The grammar is as follows, with literal words in quotes:");
        says("The tokens of a text are words, numbers and semicolons.", () -> {
            loads("cake1;sibling a1;");
            loads(" cake 1 ; sibling a 1 ; ");
        });
        says("A word is a maximal run of the letters a to z.", this::wordsAreMaximal);
        says("A number is a maximal run of decimal digits.", this::numbersAreMaximal);
        says("Spaces (byte 32) and line feeds (byte 10) separate tokens and have no other meaning.", this::separators);
        says("A word of more than 8 letters, a number of more than 2 digits and any other byte are invalid tokens.",
            this::invalidTokens);
    }

    private void wordsAreMaximal() {
        loadFails("cakea 1;sibling a 1;", 1, 0);
        loadFails("ca ke 1;sibling a 1;", 1, 0);
        loadFails("cake 1;siblinga 1;", 1, 7);
        loads("cake 1;sibling az 1;");
        loadFails("cake 1;sibling a`z 1;", 1, 16);
        loadFails("cake 1;sibling a{z 1;", 1, 16);
        scriptFails("knifez;", 1, 0);
        scriptFails("give ann0 1 2;", 1, 12);
        runs("give ann0 1;");
    }

    private void numbersAreMaximal() {
        loadFails("cake 2;sibling a 12;", 2, 17);
        loadFails("cake 2;sibling a 123;", 1, 17);
        loads("cake 2;sibling a 1 2;");
        loads("cake 2;sibling a 09 0;");
        loadFails("cake 2;sibling a 0/9;", 1, 18);
        loadFails("cake 2;sibling a 0:9;", 1, 18);
        scriptFails("free 01;", 1, 7);
        runs("free 0 1;");
    }

    private void separators() {
        for (int octet = 0; octet < 256; octet++) {
            boolean separates = octet == 32 || octet == 10;
            String text = "knife" + (char) octet + ";knife;";
            if (separates) {
                runs(text);
                loads("cake" + (char) octet + "1;sibling a" + (char) octet + "1;");
            } else if (octet >= 'a' && octet <= 'z') {
                scriptFails(text, 1, 0);
            } else {
                scriptFails(text, 1, octet == ';' ? 6 : 5);
            }
        }
        loads("\n\n cake \n 1\n;\n\nsibling\na\n1 ;\n ");
        loads("cake1;sibling a1;");
        runs(" \n ");
        scriptFails("kni fe;", 1, 0);
        loadFails("cake 1 2;sibling a" + " 1".repeat(12) + ";", 1, 7);
    }

    private void invalidTokens() {
        loadFails("cake 1;sibling abcdefgh 1;", 3, 15);
        loadFails("cake 1;sibling abcdefghi 1;", 1, 15);
        scriptFails("robin abcdefgh;", 3, 6);
        scriptFails("robin abcdefghi;", 1, 6);
        runs("free 10 99;");
        scriptFails("free 10 100;", 1, 8);
        loadFails("cake 99;", 2, 5);
        loadFails("cake 100;", 1, 5);
        for (int octet = 0; octet < 256; octet++) {
            char sign = (char) octet;
            boolean isLetter = sign >= 'a' && sign <= 'z';
            boolean isDigit = sign >= '0' && sign <= '9';
            boolean separates = sign == ' ' || sign == '\n';
            String name = "cake 1;sibling " + sign + " 1;";
            String value = "cake 1;sibling a " + sign + ";";
            if (isLetter) {
                loads(name);
            } else {
                loadFails(name, 1, separates ? 17 : 15);
            }
            if (isDigit) {
                loads(value);
            } else {
                loadFails(value, 1, separates ? 18 : 17);
            }
        }
    }

    private void grammar() {
        says("setup = \"cake\" cells \";\" sibling \";\" { sibling \";\" }", this::setups);
        says("sibling = \"sibling\" name value { value }", this::siblings);
        says("script = { command \";\" }", this::emptyAndFullScripts);
        says("command = \"give\" name from to | \"free\" from to | \"swap\" name name | \"value\" name cell value | "
            + "\"divide\" name name | \"knife\" | \"robin\" name | \"rotate\" name", this::commands);
        says("A sibling has one value for each cell of the cake.", this::oneValueForEachCell);
        says("The commands call the methods give, release, swapShares, setValue, divideAndChoose (first the cutter, "
            + "then the chooser), movingKnife, roundRobin and rotate.", this::commandsCallMethods);
    }

    private void setups() {
        loadFails("", 1, 0);
        loadFails("1;sibling a 1;", 1, 0);
        loadFails("bake 1;sibling a 1;", 1, 0);
        loadFails("cakf 1;sibling a 1;", 1, 0);
        loadFails("cak 1;sibling a 1;", 1, 0);
        loadFails("cake;sibling a 1;", 1, 4);
        loadFails("cake 1 sibling a 1;", 1, 7);
        loadFails("cake 1;", 1, 7);
        loadFails("cake 1;;", 1, 7);
        loadFails("cake 1;sibling a 1", 1, 18);
        loads(SETUP);
        loadFails(SETUP + ";", 1, 19);
        loadFails(SETUP + "sibling b 1", 1, 30);
        loads(SETUP + "sibling b 1;");
        loadFails(SETUP + "cake 1;sibling b 1;", 1, 19);
    }

    private void siblings() {
        loadFails("cake 1;a 1;", 1, 7);
        loadFails("cake 1;tibling a 1;", 1, 7);
        loadFails("cake 1;siblinh a 1;", 1, 7);
        loadFails("cake 1;siblin a 1;", 1, 7);
        loadFails("cake 1;sibling 1;", 1, 15);
        loadFails("cake 1;sibling a;", 1, 16);
        loadFails("cake 1;sibling a 1 a;", 1, 19);
        loadFails("cake 1;sibling a b 1;", 1, 17);
        loadFails("cake 1;sibling sibling a 1;", 3, 15);
        loads(SETUP);
    }

    private void emptyAndFullScripts() {
        runs("");
        runs("\n");
        runs("knife;");
        scriptFails("knife", 1, 5);
        scriptFails(";", 1, 0);
        scriptFails("knife;;", 1, 6);
        scriptFails("knife;knife", 1, 11);
        runs("knife;knife;");
        runs("knife;".repeat(29));
        runs("knife;".repeat(30));
    }

    private void commands() {
        argumentsOf("give", "ann 0 1");
        argumentsOf("free", "0 1");
        argumentsOf("swap", "ann bob");
        argumentsOf("value", "ann 0 1");
        argumentsOf("divide", "ann bob");
        argumentsOf("knife", "");
        argumentsOf("robin", "ann");
        argumentsOf("rotate", "ann");
        scriptFails("cake 1;", 1, 0);
        scriptFails("sibling a 1;", 1, 0);
        scriptFails("ann;", 1, 0);
        scriptFails("7;", 1, 0);
    }

    /** Each argument may not be missing, none may follow, and a name and a number may not stand for each other. */
    private void argumentsOf(String word, String arguments) {
        String[] parts = arguments.isEmpty() ? new String[0] : arguments.split(" ");
        StringBuilder text = new StringBuilder(word);
        for (String part : parts) {
            scriptFails(text + ";", 1, text.length());
            scriptFails(text.toString(), 1, text.length());
            boolean isNumber = Character.isDigit(part.charAt(0));
            scriptFails(text + (isNumber ? " ann" : " 0"), 1, text.length() + 1);
            text.append(' ').append(part);
        }
        runs(text + ";");
        scriptFails(text.toString(), 1, text.length());
        scriptFails(text + " ann;", 1, text.length() + 1);
        scriptFails(text + " 0;", 1, text.length() + 1);
        String rest = text.substring(word.length()) + ";";
        scriptFails("z" + word.substring(1) + rest, 1, 0);
        scriptFails(word.substring(0, word.length() - 1) + "z" + rest, 1, 0);
        scriptFails(word.substring(0, word.length() - 1) + rest, 1, 0);
        scriptFails(word + "z" + rest, 1, 0);
    }

    private void oneValueForEachCell() {
        for (int cells : new int[] {1, 2, 23, 24}) {
            String start = "cake " + cells + ";sibling a";
            int end = start.length() + 2 * cells;
            loadFails(start + " 1".repeat(cells - 1) + ";", 1, end - 2);
            loads(start + " 1".repeat(cells) + ";");
            loadFails(start + " 1".repeat(cells + 1) + ";", 1, end + 1);
        }
        CakeDivision cake = Cakes.of("cake 3;sibling a 0 5 9;sibling b 9 5 1;");
        same("the values of the first", Cakes.values(cake, 0), "059");
        same("the values of the last", Cakes.values(cake, 1), "951");
    }

    private void commandsCallMethods() {
        alike("give cid 1 6;", cake -> cake.give(2, 1, 6));
        alike("free 1 2;", cake -> cake.release(1, 2));
        alike("swap ann bob;", cake -> cake.swapShares(0, 1));
        alike("value bob 7 0;", cake -> cake.setValue(1, 7, 0));
        alike("divide ann bob;", cake -> cake.divideAndChoose(0, 1));
        alike("divide bob ann;", cake -> cake.divideAndChoose(1, 0));
        alike("knife;", cake -> cake.movingKnife());
        alike("robin cid;", cake -> cake.roundRobin(2));
        alike("rotate bob;", cake -> cake.rotate(1));
        CakeDivision cutter = first();
        Cakes.run(cutter, "divide bob ann;");
        same("bob cuts, ann chooses", Cakes.owners(cutter), "10000000");
        CakeDivision chooser = first();
        Cakes.run(chooser, "divide ann bob;");
        same("ann cuts, bob chooses", Cakes.owners(chooser), "11110000");
    }

    private void alike(String command, Call call) {
        CakeDivision scripted = shared(Busy.FIRST, "0-1120-2");
        CakeDivision called = shared(Busy.FIRST, "0-1120-2");
        same(command, Cakes.run(scripted, command), 1);
        call.on(called);
        same("the state after " + command, Busy.probe(scripted), Busy.probe(called));
    }

    private void errors() {
        says("A text is parsed from left to right.", () -> {
            loadFails("cake 0;sibling abcdefg 10", 2, 5);
            loadFails("cake 1;sibling abcdefg 10", 3, 15);
            loadFails("cake 1;sibling abcdef 10", 2, 22);
            loadFails("cake 1;sibling abcdef 1", 1, 23);
        });
        says("The first token with an error determines the error code and the error position.", () -> {
            loadFails("cake 25;?", 2, 5);
            loadFails("cake 24;?", 1, 8);
            loadFails("cake 1;sibling a 10;sibling a 1;", 2, 17);
            loadFails("cake 1;sibling a 1;sibling a 10;", 3, 27);
            scriptFails("robin dan;robin 1;", 3, 6);
            scriptFails("robin 1;robin dan;", 1, 6);
            scriptFails("give ann 8 8;robin dan;", 3, 19);
        });
        says("The error position is the index of the first byte of this token, or the length of the text if the text "
            + "ends too early.", this::errorPositions);
        says("If several errors apply to the same token, the lowest code is reported:", this::lowestCodes);
    }

    private void errorPositions() {
        loadFails("?", 1, 0);
        loadFails(" \n?", 1, 2);
        loadFails("cake  100;", 1, 6);
        loadFails("cake 1;  siblings", 1, 9);
        loadFails("", 1, 0);
        loadFails("cake", 1, 4);
        loadFails("cake \n", 1, 6);
        loadFails(" ".repeat(599), 1, 599);
        loadFails(" ".repeat(600), 1, 600);
        loadFails(" ".repeat(599) + "?", 1, 599);
        loadFails(" ".repeat(596) + "cake", 1, 600);
        scriptFails(" ".repeat(595) + "knife", 1, 600);
        scriptFails(" ".repeat(594) + "knife ", 1, 600);
        scriptFails("knife;".repeat(29) + "knif;", 1, 174);
    }

    private void lowestCodes() {
        loadFails("cake 1;sibling abcdefghi 1;", 1, 15);
        loadFails("cake 100;", 1, 5);
        loadFails("cake 1;sibling a 100;", 1, 17);
        loadFails("cake 1;sibling a 1 10;", 1, 19);
        loadFails("cake 1;10;", 1, 7);
        loadFails(Cakes.equal(1, 6, 1) + "siblings a 1;", 1, 79);
        loadFails(Cakes.equal(1, 6, 1) + "abcdefg", 1, 79);
        loadFails(Cakes.equal(1, 6, 1) + "10", 1, 79);
        scriptFails("robin abcdefghi;", 1, 6);
        scriptFails("abcdefg;", 1, 0);
        scriptFails("knife;".repeat(30) + "knifes;", 1, 180);
        scriptFails("knife;".repeat(30) + "nobody;", 1, 180);
        scriptFails("knife;".repeat(30) + "sibling", 1, 180);
    }

    private void codes() {
        says("code 1: an invalid token, a token that the grammar does not allow at this place (this includes a missing "
            + "and an excess value), or an unexpected end of the text;", () -> {
            loadFails("cake 1.", 1, 6);
            loadFails("cake sibling", 1, 5);
            loadFails("cake 3;sibling a 1 2;", 1, 20);
            loadFails("cake 3;sibling a 1 2", 1, 20);
            loadFails("cake 3;sibling a 1 2 3 4;", 1, 23);
            loadFails("cake 3;sibling a 1 2 3", 1, 22);
            scriptFails("value ann 0;", 1, 11);
            scriptFails("value ann 0 1 2;", 1, 14);
            scriptFails("value ann 0", 1, 11);
        });
        says("code 2: a number of cells or a value that is out of range in a setup text (numbers in a script are not "
            + "checked by the parser);", this::numbersOutOfRange);
        says("code 3: a name of more than 6 letters, the name of a new sibling that an earlier sibling has, or the "
            + "name of a sibling that does not exist;", this::wrongNames);
        says("code 4: the word \"sibling\" of a 7th sibling, or the first word of a 31st command.",
            this::seventhAndThirtyFirst);
    }

    private void numbersOutOfRange() {
        loadFails("cake 0;sibling a;", 2, 5);
        loadFails("cake 00;sibling a;", 2, 5);
        loads("cake 01;sibling a 1;");
        loads(Cakes.equal(24, 1, 1));
        loadFails(Cakes.equal(25, 1, 1), 2, 5);
        loadFails("cake 99;", 2, 5);
        loads("cake 2;sibling a 0 9;");
        loadFails("cake 2;sibling a 10 9;", 2, 17);
        loadFails("cake 2;sibling a 0 10;", 2, 19);
        loadFails("cake 2;sibling a 0 99;", 2, 19);
        runs("give ann 0 8;");
        runs("give ann 99 0;");
        runs("free 99 99;");
        runs("value ann 8 10;");
        runs("value ann 99 99;");
    }

    private void wrongNames() {
        loads("cake 1;sibling abcde 1;");
        loads("cake 1;sibling abcdef 1;");
        loadFails("cake 1;sibling abcdefg 1;", 3, 15);
        loadFails("cake 1;sibling abcdefgh 1;", 3, 15);
        loadFails("cake 1;sibling a 1;sibling a 1;", 3, 27);
        loadFails("cake 1;sibling a 1;sibling b 1;sibling a 1;", 3, 39);
        loads("cake 1;sibling ann 1;sibling bob 1;");
        runs("robin ann;");
        scriptFails("robin an;", 3, 6);
        scriptFails("robin anna;", 3, 6);
        scriptFails("robin abcdefg;", 3, 6);
        scriptFails("swap ann dan;", 3, 9);
        scriptFails("swap dan ann;", 3, 5);
        CakeDivision cake = Cakes.of(SETUP);
        Cakes.type(cake, "robin ann;");
        check.throwing("the name of an earlier cake's sibling", NO_ARGUMENT, () -> cake.runScript());
        same("its code", cake.errorCode(), 3);
        CakeDivision refused = first();
        Cakes.type(refused, "cake 1;sibling dan 1;;");
        check.throwing("a setup with an error", NO_ARGUMENT, () -> refused.load());
        Cakes.type(refused, "robin dan;");
        check.throwing("a name of that setup", NO_ARGUMENT, () -> refused.runScript());
        same("its code", refused.errorCode(), 3);
    }

    private void seventhAndThirtyFirst() {
        String six = Cakes.equal(1, 6, 1);
        loads(six);
        loads(six + " \n");
        loadFails(six + "sibling", 4, 79);
        loadFails(six + " sibling g 1;", 4, 80);
        loadFails(six + "sibling a 10 ?", 4, 79);
        String thirty = "knife;".repeat(30);
        runs(thirty);
        runs(thirty + "\n");
        for (String word : SHORT_WORDS) {
            scriptFails(thirty + " " + word, word.equals("cake") ? 1 : 4, 181);
        }
        scriptFails("knife;".repeat(29) + "robin dan;knife;", 3, 180);
        scriptFails(thirty + "robin dan;", 4, 180);
        scriptFails(thirty + ";", 1, 180);
    }

    private void scripts() {
        says("A word of the grammar can be a name wherever the grammar requires a name.", this::grammarWordsAsNames);
        says("A script without an error is executed command by command.", () -> {
            CakeDivision cake = first();
            same("a script", Cakes.run(cake, "give ann 0 7;free 3 4;give bob 4 4;swap ann bob;value cid 0 9;"), 5);
            same("the owners", Cakes.owners(cake), "111-0111");
            same("the value", cake.value(2, 0), 9);
            CakeDivision seen = first();
            same("a command sees what those before it did", Cakes.run(seen, "knife;swap ann bob;rotate bob;"), 3);
        });
        says("Execution stops at the first command whose method would throw an exception;", this::firstThatWouldThrow);
        says("this command and all later ones are not executed.", () -> {
            CakeDivision cake = first();
            same("a script", Cakes.run(cake, "give ann 0 0;give ann 1 8;give ann 2 2;give ann 9 9;knife;"), 1);
            same("the owners", Cakes.owners(cake), "0-------");
            same("the error code", cake.errorCode(), 0);
            same("the error position", cake.errorPosition(), -1);
        });
    }

    private void grammarWordsAsNames() {
        for (String word : SHORT_WORDS) {
            String setup = "cake 1;sibling " + word + " 1;sibling b 2;";
            loads(setup);
            runs(setup, "give " + word + " 0 0;swap " + word + " b;swap b " + word + ";value " + word + " 0 1;");
            runs(setup, "divide " + word + " b;divide b " + word + ";robin " + word + ";rotate " + word + ";");
            CakeDivision cake = Cakes.of(setup);
            same("give to " + word, Cakes.run(cake, "give " + word + " 0 0;"), 1);
            same("the owner", cake.owner(0), 0);
        }
        // The one word of the grammar that is too long for a name.
        loadFails("cake 1;sibling sibling 1;", 3, 15);
        scriptFails("robin sibling;", 3, 6);
        scriptFails("robin knife;", 3, 6);
    }

    private void firstThatWouldThrow() {
        stops("give ann 0 8;");
        stops("give ann 8 8;");
        stops("give ann 3 2;");
        stops("free 0 8;");
        stops("free 8 8;");
        stops("free 3 2;");
        stops("swap bob bob;");
        stops("value ann 8 1;");
        stops("value ann 0 10;");
        stops("divide bob bob;");
        stops("rotate ann;");
        goesOn("give ann 7 7;");
        goesOn("give ann 0 7;");
        goesOn("free 7 7;");
        goesOn("free 0 7;");
        goesOn("swap ann bob;");
        goesOn("value ann 7 0;");
        goesOn("value ann 0 9;");
        goesOn("divide ann bob;");
        goesOn("knife;");
        goesOn("robin cid;");
    }

    private void stops(String command) {
        CakeDivision cake = first();
        same("a script with " + command, Cakes.run(cake, "give bob 7 7;" + command + "give bob 6 6;"), 1);
        same("the owners", Cakes.owners(cake), "-------1");
        same("a script that starts with " + command, Cakes.run(cake, command), 0);
    }

    private void goesOn(String command) {
        same("a script with " + command, Cakes.run(first(), "give bob 7 7;" + command + "give bob 6 6;"), 3);
    }
}

/** Promises 4, 5, 6 and 53: the error code and the error position of setup texts and scripts. */
public final class ParserTest {
    private static final Check CHECK = new Check("ParserTest");
    private static final int LOADED = 0;

    public static void main(String[] args) {
        setupBeginnings();
        setupNumbers();
        setupNames();
        setupEnds();
        invalidTokens();
        manySiblings();
        scriptCommands();
        scriptNames();
        scriptNumbers();
        manyCommands();
        latestText();
        bytesCutOff();
        fullBuffer();
        CHECK.finish();
    }

    /** A code of 0 stands for a text without an error. */
    private static void setup(String text, int code, int position) {
        CakeDivision cake = new CakeDivision();
        Cakes.type(cake, text);
        if (code == LOADED) {
            cake.load();
        } else {
            CHECK.throwing("load of " + text, IllegalArgumentException.class, () -> cake.load());
        }
        tell(cake, text, code, position);
    }

    private static void script(String text, int code, int position) {
        CakeDivision cake = new CakeDivision();
        Cakes.type(cake, text);
        if (code == LOADED) {
            cake.runScript();
        } else {
            CHECK.throwing("runScript of " + text, IllegalArgumentException.class, () -> cake.runScript());
        }
        tell(cake, text, code, position);
    }

    private static void tell(CakeDivision cake, String text, int code, int position) {
        CHECK.same("the code of " + text, cake.errorCode(), code);
        CHECK.same("the position of " + text, cake.errorPosition(), position);
        CHECK.same("the buffer after " + text, Cakes.bufferLength(cake), 0);
    }

    private static void setupBeginnings() {
        setup("", 1, 0);
        setup(" \n ", 1, 3);
        setup("cakes 1;sibling a 1;", 1, 0);
        setup("cak 1;sibling a 1;", 1, 0);
        setup("bake 1;sibling a 1;", 1, 0);
        setup(" coke 1;sibling a 1;", 1, 1);
        setup("1", 1, 0);
        setup(";", 1, 0);
        setup("cake", 1, 4);
        setup("cake  ", 1, 6);
        setup("cake ;", 1, 5);
        setup("cake cake", 1, 5);
        setup("cake 1", 1, 6);
        setup("cake 1 1;", 1, 7);
        setup("cake 1 sibling a 1;", 1, 7);
        setup("cake 1;", 1, 7);
        setup("cake 1; ", 1, 8);
        setup("cake 1;;", 1, 7);
        setup("cake 1;1", 1, 7);
        setup("cake 1;siblin a 1;", 1, 7);
        setup("cake 1;sibling a 1;", LOADED, -1);
    }

    private static void setupNumbers() {
        setup("cake 0;sibling a;", 2, 5);
        setup("cake 00;sibling a;", 2, 5);
        setup("cake 25;sibling a 1;", 2, 5);
        setup("cake 99;sibling a 1;", 2, 5);
        setup("cake 001;sibling a 1;", 1, 5);
        setup("cake 24;sibling a 1;", 1, 19);
        setup("cake 2;sibling a 1 10;", 2, 19);
        setup("cake 2;sibling a 1 99;", 2, 19);
        setup("cake 2;sibling a 1 100;", 1, 19);
        setup("cake 2;sibling a 1 09;", LOADED, -1);
        setup("cake 2;sibling a 1;", 1, 18);
        setup("cake 2;sibling a;", 1, 16);
        setup("cake 2;sibling a 1 2 3;", 1, 21);
        setup("cake 2;sibling a 1 2 10;", 1, 21);
        setup("cake 2;sibling a 1 b;", 1, 19);
        setup("cake 2;sibling a 10 ?;", 2, 17);
    }

    private static void setupNames() {
        setup("cake 1;sibling abcdef 1;", LOADED, -1);
        setup("cake 1;sibling abcdefg 1;", 3, 15);
        setup("cake 1;sibling abcdefgh 1;", 3, 15);
        setup("cake 1;sibling abcdefghi 1;", 1, 15);
        setup("cake 1;sibling sibling 1;", 3, 15);
        setup("cake 1;sibling 1 1;", 1, 15);
        setup("cake 1;sibling ; 1;", 1, 15);
        setup("cake 1;sibling Ab 1;", 1, 15);
        setup("cake 1;sibling a 1;sibling a 1;", 3, 27);
        setup("cake 1;sibling ab 1;sibling a 1;sibling ab 2;", 3, 40);
        setup("cake 1;sibling ab 1;sibling a 1;sibling abc 2;", LOADED, -1);
        // The names of the cake that stands do not count.
        setup("cake 1;sibling ann 1;sibling bob 1;", LOADED, -1);
    }

    private static void setupEnds() {
        setup("cake 1;sibling", 1, 14);
        setup("cake 1;sibling a", 1, 16);
        setup("cake 1;sibling a 1", 1, 18);
        setup("cake 1;sibling a 1 \n", 1, 20);
        setup("cake 1;sibling a 1;;", 1, 19);
        setup("cake 1;sibling a 1;sibling", 1, 26);
        setup("cake 1;sibling a 1; b", 1, 20);
        setup("cake 1;sibling a 1; 3", 1, 20);
        setup("cake 1;sibling a 1;\n ", LOADED, -1);
    }

    private static void invalidTokens() {
        setup("\tcake 1;sibling a 1;", 1, 0);
        setup("cake\r1;sibling a 1;", 1, 4);
        setup("cake 1,sibling a 1;", 1, 6);
        setup("cake -1;sibling a 1;", 1, 5);
        setup("cake 1;sibling a \u00001;", 1, 17);
        setup("cake 1;sibling a 1;\u00e1", 1, 19);
        setup("cake 1;sibling a 1;\u00ff", 1, 19);
        setup("cake 1;sibling a`1;", 1, 16);
        setup("cake 1;sibling a{1;", 1, 16);
        setup("cake 1;sibling a/1;", 1, 16);
        setup("cake 1;sibling a 1:", 1, 18);
        setup("cakecakec", 1, 0);
        // A later invalid token does not hide an earlier error.
        setup("cake 0;?", 2, 5);
    }

    private static void manySiblings() {
        StringBuilder six = new StringBuilder("cake 1;");
        for (char name = 'a'; name < 'g'; name++) {
            six.append("sibling ").append(name).append(" 1;");
        }
        int end = six.length();
        setup(six.toString(), LOADED, -1);
        setup(six + "sibling g 1;", 4, end);
        setup(six + " sibling a 1;", 4, end + 1);
        setup(six + "sibling", 4, end);
        setup(six + "g 1;", 1, end);
        setup(six + ";", 1, end);
        setup(six + "1", 1, end);
        setup(six + "siblings a 1;", 1, end);
    }

    private static void scriptCommands() {
        script("", LOADED, -1);
        script(" \n", LOADED, -1);
        script("knife;", LOADED, -1);
        script("give ann 0 1;free 0 1;swap ann bob;value cid 1 2;divide ann bob;knife;robin ann;rotate bob;",
            LOADED, -1);
        script(";", 1, 0);
        script("1", 1, 0);
        script("ann", 1, 0);
        script("knives;", 1, 0);
        script("knif;", 1, 0);
        script("snife;", 1, 0);
        script("kniff;", 1, 0);
        script("knife", 1, 5);
        script("knife ann;", 1, 6);
        script("knife;knife", 1, 11);
        script("knife;;", 1, 6);
        script("give ann 0 1 2;", 1, 13);
        script("free 0;", 1, 6);
        script("free ann 0 1;", 1, 5);
        script("swap ann;", 1, 8);
        script("swap ann bob cid;", 1, 13);
        script("divide ann 1;", 1, 11);
        script("robin;", 1, 5);
        script("robin ann bob;", 1, 10);
        script("rotate", 1, 6);
        script("rotate 1;", 1, 7);
        script("value ann 1;", 1, 11);
        script("KNIFE;", 1, 0);
        script("knife.", 1, 5);
    }

    private static void scriptNames() {
        script("rotate an;", 3, 7);
        script("robin anne;", 3, 6);
        script("give dan 0 1;", 3, 5);
        script("swap ann dan;", 3, 9);
        script("divide dan dan;", 3, 7);
        script("value abcdefgh 0 1;", 3, 6);
        script("value abcdefghi 0 1;", 1, 6);
        script("give give 0 1;", 3, 5);
        CakeDivision cake = Cakes.of("cake 1;sibling give 1;sibling knife 2;");
        CHECK.same("names from the grammar", Cakes.run(cake, "give give 0 0;swap give knife;"), 2);
        CHECK.same("the owner", cake.owner(0), 1);
    }

    private static void scriptNumbers() {
        script("give ann 99 98;", LOADED, -1);
        script("give ann 7 8;", LOADED, -1);
        script("value ann 99 99;", LOADED, -1);
        script("value ann 0 10;", LOADED, -1);
        script("free 00 07;", LOADED, -1);
        script("give ann 0 100;", 1, 11);
        script("give ann 000 1;", 1, 9);
        script("give ann x 1;", 1, 9);
        script("give ann -1 1;", 1, 9);
        script("value ann 0 ;", 1, 12);
    }

    private static void manyCommands() {
        String thirty = "knife;".repeat(30);
        script(thirty, LOADED, -1);
        script(thirty + " \n", LOADED, -1);
        script(thirty + "knife;", 4, 180);
        script(thirty + " rotate", 4, 181);
        script(thirty + "give", 4, 180);
        script(thirty + "ann", 1, 180);
        script(thirty + ";", 1, 180);
        script(thirty + "5", 1, 180);
        script("swap ann bob;".repeat(29) + "swap dan ann;knife;", 3, 382);
    }

    private static void bytesCutOff() {
        CakeDivision cake = new CakeDivision();
        Cakes.type(cake, "cake 1;sibling a 12;");
        cake.truncate(18);
        CHECK.throwing("load", IllegalArgumentException.class, () -> cake.load());
        tell(cake, "a text without its last digit", 1, 18);
        Cakes.type(cake, "knife;knifes");
        cake.truncate(6);
        CHECK.same("a script without its second command", cake.runScript(), 1);
        Cakes.type(cake, "knife;knifes");
        cake.truncate(11);
        CHECK.throwing("runScript", IllegalArgumentException.class, () -> cake.runScript());
        tell(cake, "a script without its last letter", 1, 11);
    }

    private static void fullBuffer() {
        setup(" ".repeat(600), 1, 600);
        setup(" ".repeat(596) + "cake", 1, 600);
        setup(" ".repeat(594) + "cake 1", 1, 600);
        setup(" ".repeat(593) + "cake 12", 1, 600);
        script(" ".repeat(600), LOADED, -1);
        script(" ".repeat(594) + "knife;", LOADED, -1);
        script(" ".repeat(595) + "knife", 1, 600);
        script("?".repeat(600), 1, 0);
        script(" ".repeat(599) + "?", 1, 599);
    }

    /** Both calls tell of the latest text only, and other calls do not touch them. */
    private static void latestText() {
        CakeDivision cake = new CakeDivision();
        Cakes.type(cake, "cake 0;");
        CHECK.throwing("load", IllegalArgumentException.class, () -> cake.load());
        cake.movingKnife();
        cake.undo();
        cake.save(0);
        cake.restore(0);
        CHECK.same("the code stays", cake.errorCode(), 2);
        CHECK.same("the position stays", cake.errorPosition(), 5);
        Cakes.type(cake, "swap ann dan;");
        CHECK.throwing("runScript", IllegalArgumentException.class, () -> cake.runScript());
        CHECK.same("the code of the script", cake.errorCode(), 3);
        CHECK.same("the position in the script", cake.errorPosition(), 9);
        Cakes.run(cake, "give ann 9 9;");
        CHECK.same("the code of a script that stops", cake.errorCode(), 0);
        CHECK.same("the position of a script that stops", cake.errorPosition(), -1);
    }
}

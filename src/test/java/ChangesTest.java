/** Promises 45 to 53 but for rotate(): the changes and the scripts. */
public final class ChangesTest {
    private static final Check CHECK = new Check("ChangesTest");
    private static final Class<IndexOutOfBoundsException> NO_INDEX = IndexOutOfBoundsException.class;
    private static final Class<IllegalArgumentException> NO_ARGUMENT = IllegalArgumentException.class;
    private static final Class<IllegalStateException> NO_STATE = IllegalStateException.class;

    public static void main(String[] args) {
        give();
        release();
        swapShares();
        setValue();
        divideAndChoose();
        movingKnife();
        movingKnifeEdges();
        roundRobin();
        refusedChangesAreNoChanges();
        scripts();
        scriptsThatStop();
        refusedScripts();
        CHECK.finish();
    }

    private static void give() {
        CakeDivision cake = new CakeDivision();
        CHECK.same("give(0, 2, 3)", cake.give(0, 2, 3), 7);
        CHECK.same("give(1, 3, 7)", cake.give(1, 3, 7), 9);
        CHECK.same("the owners", Cakes.owners(cake), "--011111");
        CHECK.same("give(0, 7, 7)", cake.give(0, 7, 7), 4);
        CHECK.same("give(0, 0, 0)", cake.give(0, 0, 0), 5);
        CHECK.same("the owners", Cakes.owners(cake), "0-011110");
        CHECK.same("give the whole cake", cake.give(2, 0, 7), 8);
        CHECK.refused("give(0, 3, 2)", cake, NO_ARGUMENT, () -> cake.give(0, 3, 2));
    }

    private static void release() {
        CakeDivision cake = new CakeDivision();
        cake.give(0, 0, 7);
        CHECK.same("release(1, 2)", cake.release(1, 2), 2);
        CHECK.same("release(2, 3)", cake.release(2, 3), 3);
        CHECK.same("release(7, 7)", cake.release(7, 7), 4);
        CHECK.same("the owners", Cakes.owners(cake), "0---000-");
        CHECK.refused("release(3, 2)", cake, NO_ARGUMENT, () -> cake.release(3, 2));
        CHECK.same("release(0, 7)", cake.release(0, 7), 8);
    }

    private static void swapShares() {
        CakeDivision cake = new CakeDivision();
        Cakes.share(cake, "1000-221");
        CHECK.same("envyCount", cake.envyCount(), 1);
        // ann: 2, 9, 5; bob: 18, 0, 0; cid: 2, 3, 2.
        CHECK.same("swapShares(0, 1)", cake.swapShares(0, 1), 4);
        CHECK.same("the owners", Cakes.owners(cake), "0111-220");
        CHECK.same("swapShares(2, 1)", cake.swapShares(2, 1), 3);
        CHECK.same("the owners", Cakes.owners(cake), "0222-110");
        CakeDivision other = new CakeDivision();
        other.give(0, 3, 4);
        CHECK.same("swap with an empty share", other.swapShares(2, 0), 1);
        CHECK.same("the owners", Cakes.owners(other), "---22---");
        CHECK.refused("swapShares(1, 1)", cake, NO_STATE, () -> cake.swapShares(1, 1));
    }

    private static void setValue() {
        CakeDivision cake = new CakeDivision();
        CHECK.same("setValue(0, 0, 9)", cake.setValue(0, 0, 9), 1);
        CHECK.same("setValue(0, 0, 0)", cake.setValue(0, 0, 0), 9);
        CHECK.same("setValue(2, 7, 5)", cake.setValue(2, 7, 5), 1);
        CHECK.same("the values", Cakes.values(cake, 0) + Cakes.values(cake, 1) + Cakes.values(cake, 2),
            "023443219000000911111115");
    }

    private static void divideAndChoose() {
        CakeDivision cake = new CakeDivision();
        cake.give(2, 0, 7);
        CHECK.same("divideAndChoose(0, 1)", cake.divideAndChoose(0, 1), 4);
        CHECK.same("the left side in a tie", Cakes.owners(cake), "11110000");
        CHECK.same("divideAndChoose(1, 0)", cake.divideAndChoose(1, 0), 1);
        CHECK.same("the greater right side", Cakes.owners(cake), "10000000");
        CakeDivision one = Cakes.of("cake 1;sibling a 5;sibling b 7;");
        CHECK.same("divideAndChoose of one cell", one.divideAndChoose(0, 1), 0);
        CHECK.same("the chooser's cell", Cakes.owners(one), "1");
        CakeDivision worthless = Cakes.of("cake 2;sibling a 0 0;sibling b 0 0;");
        CHECK.same("divideAndChoose of nothing", worthless.divideAndChoose(0, 1), 0);
        CHECK.same("the empty left side in a tie", Cakes.owners(worthless), "00");
        CHECK.refused("divideAndChoose(2, 2)", cake, NO_STATE, () -> cake.divideAndChoose(2, 2));
    }

    private static void movingKnife() {
        CakeDivision cake = new CakeDivision();
        Cakes.share(cake, "01-01-01");
        CHECK.same("movingKnife", cake.movingKnife(), 3);
        CHECK.same("the owners", Cakes.owners(cake), "10000222");
        CHECK.same("movingKnife again", cake.movingKnife(), 3);
        CHECK.same("the owners again", Cakes.owners(cake), "10000222");
        CakeDivision tie = Cakes.of("cake 4;sibling a 1 1 1 1;sibling b 1 1 1 1;");
        CHECK.same("a tie", tie.movingKnife(), 2);
        CHECK.same("the lowest number wins", Cakes.owners(tie), "0011");
    }

    private static void movingKnifeEdges() {
        CakeDivision one = Cakes.of("cake 3;sibling a 0 0 0;");
        CHECK.same("movingKnife for one", one.movingKnife(), 1);
        CHECK.same("it gets all", Cakes.owners(one), "000");
        CakeDivision few = Cakes.of("cake 2;sibling a 0 1;sibling b 0 1;sibling c 9 9;sibling d 0 0;");
        // c and d both have mark 0: c gets cell 0; then d's mark is 1 like the others', and a gets cell 1.
        CHECK.same("movingKnife with too few cells", few.movingKnife(), 3);
        CHECK.same("two get nothing", Cakes.owners(few), "20");
        CakeDivision rest = Cakes.of("cake 3;sibling a 0 1 0;sibling b 1 0 0;");
        CHECK.same("movingKnife with cells behind the last mark", rest.movingKnife(), 2);
        CHECK.same("the last sibling gets all the rest", Cakes.owners(rest), "100");
        CakeDivision last = Cakes.of("cake 3;sibling a 0 0 5;sibling b 0 0 5;");
        CHECK.same("movingKnife up to the last cell", last.movingKnife(), 1);
        CHECK.same("nothing is left", Cakes.owners(last), "000");
        CakeDivision parts = Cakes.of("cake 6;sibling a 2 2 2 2 2 2;sibling b 2 2 2 2 2 2;sibling c 1 1 1 1 1 1;");
        CHECK.same("movingKnife in equal parts", parts.movingKnife(), 3);
        CHECK.same("the parts", Cakes.owners(parts), "001122");
    }

    private static void roundRobin() {
        CakeDivision cake = new CakeDivision();
        CHECK.same("roundRobin(0)", cake.roundRobin(0), 8);
        CHECK.same("the owners", Cakes.owners(cake), "12200011");
        CHECK.same("roundRobin of no free cell", cake.roundRobin(0), 0);
        CHECK.same("it is a change", cake.undo(), 1);
        cake.release(0, 7);
        cake.give(0, 1, 6);
        CHECK.same("roundRobin(2)", cake.roundRobin(2), 2);
        CHECK.same("after 2 comes 0", Cakes.owners(cake), "20000000");
        cake.release(4, 4);
        CHECK.same("roundRobin of one free cell", cake.roundRobin(1), 1);
        CHECK.same("the owners", Cakes.owners(cake), "20001000");
    }

    private static void refusedChangesAreNoChanges() {
        CakeDivision cake = new CakeDivision();
        cake.give(0, 0, 0);
        CHECK.throwing("give", NO_INDEX, () -> cake.give(3, 0, 0));
        CHECK.throwing("give", NO_ARGUMENT, () -> cake.give(0, 1, 0));
        CHECK.throwing("release", NO_ARGUMENT, () -> cake.release(1, 0));
        CHECK.throwing("swapShares", NO_STATE, () -> cake.swapShares(0, 0));
        CHECK.throwing("setValue", NO_ARGUMENT, () -> cake.setValue(0, 0, 10));
        CHECK.throwing("divideAndChoose", NO_STATE, () -> cake.divideAndChoose(0, 0));
        CHECK.throwing("roundRobin", NO_INDEX, () -> cake.roundRobin(3));
        CHECK.throwing("rotate", NO_STATE, () -> cake.rotate(0));
        Cakes.type(cake, "knife");
        CHECK.throwing("runScript", NO_ARGUMENT, () -> cake.runScript());
        CHECK.same("undo of the only change", cake.undo(), 0);
    }

    private static void scripts() {
        CakeDivision cake = new CakeDivision();
        CHECK.same("give and free", Cakes.run(cake, "give bob 0 5;\nfree 2 3;"), 2);
        CHECK.same("the owners", Cakes.owners(cake), "11--11--");
        CHECK.same("swap and value", Cakes.run(cake, "swap ann bob;value cid 7 9;value cid 06 00;"), 3);
        CHECK.same("the owners", Cakes.owners(cake), "00--00--");
        CHECK.same("the values", Cakes.values(cake, 2), "11111109");
        CHECK.same("robin", Cakes.run(cake, "robin cid;"), 1);
        CHECK.same("the owners", Cakes.owners(cake), "00100022");
        CHECK.same("divide", Cakes.run(cake, "divide bob ann;"), 1);
        CHECK.same("the cutter comes first", Cakes.owners(cake), "10000000");
        CHECK.same("knife", Cakes.run(cake, "free 0 7;knife;"), 2);
        CHECK.same("its owners", Cakes.owners(cake), "10000222");
        CHECK.same("rotate", Cakes.run(cake, "swap ann bob;rotate ann;"), 2);
        CHECK.same("it swaps back", Cakes.owners(cake), "10000222");
        CHECK.same("undo of a whole script", cake.undo(), 5);
        CHECK.same("the owners before it", Cakes.owners(cake), "10000222");
        cake.undo();
        CHECK.same("the owners before the knife", Cakes.owners(cake), "10000000");
    }

    private static void scriptsThatStop() {
        CakeDivision cake = new CakeDivision();
        CHECK.same("an empty script", Cakes.run(cake, ""), 0);
        CHECK.same("a script of a separator", Cakes.run(cake, "\n"), 0);
        CHECK.same("undo of an empty script", cake.undo(), 1);
        String[] stopping = {"give ann 0 8;", "give ann 3 2;", "free 8 8;", "free 1 0;", "swap bob bob;",
            "value ann 8 1;", "value ann 0 10;", "divide cid cid;", "rotate ann;", "give ann 99 99;"};
        for (String command : stopping) {
            CakeDivision fresh = new CakeDivision();
            CHECK.same("stopped by " + command, Cakes.run(fresh, "give bob 7 7;" + command + "give cid 0 0;"), 1);
            CHECK.same("the owners", Cakes.owners(fresh), "-------1");
            CHECK.same("the values", Cakes.values(fresh, 0), "12344321");
            CHECK.same("stopped at once by " + command, Cakes.run(fresh, command), 0);
            CHECK.same("the code", fresh.errorCode(), 0);
            CHECK.same("undo of nothing done", fresh.undo(), 1);
            CHECK.same("undo", fresh.undo(), 0);
            CHECK.same("the owners", Cakes.owners(fresh), "--------");
        }
        CHECK.same("30 commands", Cakes.run(cake, "give ann 0 7;".repeat(30)), 30);
        CHECK.same("a later command sees the earlier ones", Cakes.run(cake, "knife;swap ann bob;rotate bob;"), 3);
    }

    private static void refusedScripts() {
        CakeDivision cake = new CakeDivision();
        cake.give(0, 0, 2);
        cake.writeOwners();
        Cakes.type(cake, "give bob 0 7;value ann 0 9;give dan 0 7;");
        CHECK.throwing("runScript", NO_ARGUMENT, () -> cake.runScript());
        CHECK.same("after a refused script", Cakes.describe(cake),
            "8 cells 000----- ann 12344321 bob 90000009 cid 11111111 error 3 at 32 buffer 0 output 3ann 5-");
    }
}

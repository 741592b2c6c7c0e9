/** Promises 21 to 30 and 52: envy, satisfaction, envy cycles and their rotation. */
public final class FairnessTest {
    private static final Check CHECK = new Check("FairnessTest");
    private static final Class<IllegalStateException> NO_STATE = IllegalStateException.class;

    public static void main(String[] args) {
        envies();
        mildEnvies();
        mildExceptions();
        countsWithoutShares();
        mostEnvied();
        satisfied();
        shortCycles();
        cyclesOfSix();
        cyclesWithTies();
        wouldSwap();
        rotations();
        rotationWithGaps();
        CHECK.finish();
    }

    private static void envies() {
        CakeDivision cake = new CakeDivision();
        Cakes.share(cake, "1-0022-2");
        CHECK.same("worths of 0", cake.worthOfShare(0, 0) * 100 + cake.worthOfShare(0, 2), 708);
        CHECK.same("0 envies 2", cake.envies(0, 2), true);
        CHECK.same("0 envies 1", cake.envies(0, 1), false);
        CHECK.same("1 envies 2 with as much", cake.envies(1, 2), false);
        CHECK.same("2 envies 0", cake.envies(2, 0), false);
        CHECK.same("0 envies itself", cake.envies(0, 0), false);
        CHECK.same("envyCount", cake.envyCount(), 1);
        cake.release(7, 7);
        CHECK.same("0 envies 2 with as much", cake.envies(0, 2), false);
        CHECK.same("envyCount", cake.envyCount(), 0);
    }

    private static void mildEnvies() {
        CakeDivision cake = Cakes.of("cake 5;sibling a 4 3 3 2 0;sibling b 1 5 5 5 5;sibling c 0 0 0 0 9;");
        Cakes.share(cake, "01---");
        CHECK.same("no envy", cake.strongEnvyCount() + cake.envyCount(), 0);
        CHECK.same("c envies b's only cell", cake.envies(2, 1), false);
        Cakes.share(cake, "011--");
        CHECK.same("6 to 4 is mild", cake.isMild(0, 1), true);
        CHECK.same("strongEnvyCount of mild ones", cake.strongEnvyCount(), 0);
        Cakes.share(cake, "0111-");
        CHECK.same("8 to 4, 5 without the dearest", cake.isMild(0, 1), false);
        CHECK.same("envyCount", cake.envyCount(), 1);
        CHECK.same("strongEnvyCount", cake.strongEnvyCount(), 1);
        cake.setValue(0, 0, 5);
        CHECK.same("8 to 5, 5 without the dearest", cake.isMild(0, 1), true);
        Cakes.share(cake, "-0001");
        CHECK.same("the only cell of an envied share", cake.isMild(2, 1), true);
        CHECK.same("1 envies 0", cake.isMild(1, 0), false);
        CHECK.same("envies", cake.envyCount() * 10 + cake.strongEnvyCount(), 21);
    }

    private static void mildExceptions() {
        CakeDivision cake = new CakeDivision();
        CHECK.refused("isMild without envy", cake, NO_STATE, () -> cake.isMild(0, 1));
        CHECK.refused("isMild to itself", cake, NO_STATE, () -> cake.isMild(1, 1));
        cake.give(1, 0, 0);
        CHECK.same("isMild with envy", cake.isMild(0, 1), true);
        CHECK.refused("isMild the other way", cake, NO_STATE, () -> cake.isMild(1, 0));
    }

    private static void countsWithoutShares() {
        CakeDivision cake = new CakeDivision();
        CHECK.same("envyCount", cake.envyCount(), 0);
        CHECK.same("strongEnvyCount", cake.strongEnvyCount(), 0);
        CHECK.same("mostEnvied", cake.mostEnvied(), 0);
        CHECK.same("satisfiedCount", cake.satisfiedCount(), 0);
        CakeDivision one = Cakes.of("cake 1;sibling a 5;");
        one.give(0, 0, 0);
        CHECK.same("envyCount of one", one.envyCount(), 0);
        CHECK.same("mostEnvied of one", one.mostEnvied(), 0);
        CHECK.same("envyCycleLength of one", one.envyCycleLength(0), CakeDivision.NONE);
        CHECK.same("wouldSwap of one", one.wouldSwap(0, 0), false);
    }

    private static void mostEnvied() {
        CHECK.same("a tie", Cakes.envying("1", "0", "").mostEnvied(), 0);
        CHECK.same("a single envy", Cakes.envying("1", "", "").mostEnvied(), 1);
        CHECK.same("a later tie", Cakes.envying("12", "", "1", "2").mostEnvied(), 1);
        CHECK.same("the last sibling", Cakes.envying("5", "5", "0", "0", "5", "").mostEnvied(), 5);
        CHECK.same("all envy one", Cakes.envying("2", "2", "", "2", "2", "2").mostEnvied(), 2);
        CHECK.same("its envyCount", Cakes.envying("2", "2", "", "2", "2", "2").envyCount(), 5);
        CHECK.same("all envy all", Cakes.envying("12", "02", "01").envyCount(), 6);
    }

    private static void satisfied() {
        CakeDivision cake = Cakes.of("cake 4;sibling a 1 2 2 1;sibling b 0 0 0 0;sibling c 9 9 9 8;");
        Cakes.share(cake, "0--2");
        CHECK.same("3 of 6", cake.isSatisfied(0), false);
        CHECK.same("0 of 0", cake.isSatisfied(1), true);
        CHECK.same("24 of 35", cake.isSatisfied(2), false);
        CHECK.same("satisfiedCount", cake.satisfiedCount(), 1);
        Cakes.share(cake, "-0--");
        CHECK.same("6 of 6", cake.isSatisfied(0), true);
        cake.give(2, 2, 3);
        CHECK.same("51 of 35", cake.isSatisfied(2), true);
        CHECK.same("satisfiedCount", cake.satisfiedCount(), 3);
    }

    /** The members of the cycle through the sibling, a digit for each; an empty text if there is none. */
    private static void cycle(CakeDivision cake, int sibling, String due) {
        int length = cake.envyCycleLength(sibling);
        CHECK.same("the length of " + due, length, due.isEmpty() ? CakeDivision.NONE : due.length());
        StringBuilder members = new StringBuilder();
        for (int position = 0; position < length; position++) {
            members.append(cake.envyCycleMember(sibling, position));
        }
        CHECK.same("the members of " + due, members.toString(), due);
    }

    private static void shortCycles() {
        CakeDivision none = Cakes.envying("1", "2", "1", "");
        cycle(none, 0, "");
        cycle(none, 1, "12");
        cycle(none, 2, "21");
        cycle(none, 3, "");
        CakeDivision shorter = Cakes.envying("12", "3", "0", "0");
        cycle(shorter, 0, "02");
        cycle(shorter, 1, "130");
        cycle(shorter, 3, "301");
        cycle(Cakes.envying("1", "2", "0"), 2, "201");
    }

    private static void cyclesOfSix() {
        CakeDivision around = Cakes.envying("5", "0", "1", "2", "3", "4");
        cycle(around, 0, "054321");
        cycle(around, 3, "321054");
        CakeDivision upward = Cakes.envying("1", "2", "3", "4", "5", "0");
        cycle(upward, 5, "501234");
        CakeDivision all = Cakes.envying("12345", "02345", "01345", "01245", "01235", "01234");
        cycle(all, 0, "01");
        cycle(all, 5, "50");
    }

    private static void cyclesWithTies() {
        cycle(Cakes.envying("12", "3", "3", "0"), 0, "013");
        cycle(Cakes.envying("12", "45", "45", "", "0", "0"), 0, "014");
        cycle(Cakes.envying("12", "5", "34", "0", "0", "0"), 0, "015");
        // The least second member leads only to a longer cycle.
        cycle(Cakes.envying("14", "2", "3", "0", "5", "0"), 0, "045");
        cycle(Cakes.envying("14", "2", "3", "0", "5", "0"), 2, "2301");
    }

    private static void wouldSwap() {
        CakeDivision cake = Cakes.envying("12", "0", "");
        CHECK.same("both envy", cake.wouldSwap(0, 1), true);
        CHECK.same("both envy the other way", cake.wouldSwap(1, 0), true);
        CHECK.same("only the first envies", cake.wouldSwap(0, 2), false);
        CHECK.same("only the second envies", cake.wouldSwap(2, 0), false);
        CHECK.same("nobody envies", cake.wouldSwap(1, 2), false);
        CHECK.same("the same", cake.wouldSwap(0, 0), false);
    }

    private static void rotations() {
        rotate(Cakes.envying("1", "0", ""), 0, 2, "102");
        rotate(Cakes.envying("1", "2", "0"), 0, 3, "201");
        rotate(Cakes.envying("1", "2", "0"), 1, 3, "201");
        rotate(Cakes.envying("2", "0", "1"), 0, 3, "120");
        rotate(Cakes.envying("5", "0", "1", "2", "3", "4"), 4, 6, "123450");
        rotate(Cakes.envying("14", "2", "3", "0", "5", "0"), 0, 3, "512304");
        rotate(Cakes.envying("14", "2", "3", "0", "5", "0"), 2, 4, "301245");
    }

    /** Each cell goes to the member before its owner. */
    private static void rotate(CakeDivision cake, int sibling, int length, String owners) {
        String before = Cakes.owners(cake);
        CHECK.same("rotate(" + sibling + ")", cake.rotate(sibling), length);
        CHECK.same("the owners after a rotation of " + length, Cakes.owners(cake), owners);
        cake.undo();
        CHECK.same("the owners after undo", Cakes.owners(cake), before);
    }

    private static void rotationWithGaps() {
        CakeDivision cake = new CakeDivision();
        Cakes.share(cake, "0-1120-2");
        // The shares' worths are 4, 7, 5 for ann, 9, 0, 9 for bob and 2, 2, 2 for cid.
        CHECK.same("rotate(1)", cake.rotate(1), 2);
        CHECK.same("the owners", Cakes.owners(cake), "1-0021-2");
        CHECK.same("inconsistencies", cake.inconsistencies(), 0);
    }
}

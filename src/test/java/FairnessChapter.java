/** Promises 21 to 30: envy, satisfaction and envy cycles. */
final class FairnessChapter extends Chapter {
    FairnessChapter(Sentences sentences, Check check) {
        super(sentences, check);
    }

    @Override
    void test() {
        envies();
        isMild();
        envyCount();
        strongEnvyCount();
        mostEnvied();
        isSatisfied();
        satisfiedCount();
        envyCycleLength();
        envyCycleMember();
        wouldSwap();
    }

    /** Six siblings own four cells each, and each values its own with 1 and all others with 9. */
    private static CakeDivision strongEnvies() {
        StringBuilder setup = new StringBuilder("cake 24;");
        for (int sibling = 0; sibling < 6; sibling++) {
            setup.append("sibling ").append((char) ('a' + sibling));
            for (int cell = 0; cell < 24; cell++) {
                setup.append(cell / 4 == sibling ? " 1" : " 9");
            }
            setup.append(';');
        }
        return shared(setup.toString(), "000011112222333344445555");
    }

    private void envies() {
        in("Promise 21: envies");
        plain("Tells whether a sibling envies another one.");
        CakeDivision lastEnvied = Cakes.envying("5", "", "", "", "", "0");
        says(SIBLING, () -> {
            same("the first of six", lastEnvied.envies(0, 5), true);
            same("the last of six", lastEnvied.envies(5, 0), true);
            same("the last but one", lastEnvied.envies(4, 0), false);
        });
        says(OTHER, () -> {
            same("the first of six", lastEnvied.envies(5, 0), true);
            same("the last of six", lastEnvied.envies(0, 5), true);
            same("the last but one", lastEnvied.envies(0, 4), false);
        });
        says("Returns whether it does;", () -> {
            CakeDivision cake = shared("cake 3;sibling a 4 4 1;sibling b 1 1 1;", "01-");
            same("as much", cake.envies(0, 1), false);
            cake.give(1, 2, 2);
            same("one more", cake.envies(0, 1), true);
            same("an empty share of an empty one", first().envies(0, 1), false);
            CakeDivision worthless = shared("cake 2;sibling a 0 0;sibling b 1 1;", "1-");
            same("a share without worth", worthless.envies(0, 1), false);
            same("an empty share", worthless.envies(1, 0), false);
        });
        says("false if both are the same sibling.", () -> {
            CakeDivision cake = Cakes.envying(ALL_ENVY_ALL);
            for (int sibling = 0; sibling < 6; sibling++) {
                same("envies itself", cake.envies(sibling, sibling), false);
            }
            same("one alone", smallest().envies(0, 0), false);
        });
        says(NO_SIBLINGS, () -> {
            refusedForNoSibling("envies(sibling, 0)", (cake, sibling) -> cake.envies(sibling, 0));
            refusedForNoSibling("envies(0, sibling)", (cake, sibling) -> cake.envies(0, sibling));
            refusedForNoSibling("envies twice", (cake, sibling) -> cake.envies(sibling, sibling));
        });
    }

    private void isMild() {
        in("Promise 22: isMild");
        plain("Tells whether an envy is mild.");
        says(SIBLING, () -> {
            same("the first of six", Cakes.envying("5", "", "", "", "", "0").isMild(0, 5), true);
            same("the last of six", strongEnvies().isMild(5, 0), false);
        });
        says(OTHER, () -> {
            same("the first of six", Cakes.envying("5", "", "", "", "", "0").isMild(5, 0), true);
            same("the last of six", strongEnvies().isMild(0, 5), false);
        });
        says("Returns whether it is.", () -> {
            CakeDivision cake = shared("cake 3;sibling a 2 9 2;sibling b 1 1 1;", "011");
            same("2 without the dearest of two, and 2", cake.isMild(0, 1), true);
            cake.setValue(0, 2, 3);
            same("3 without the dearest of two, and 2", cake.isMild(0, 1), false);
            cake.setValue(0, 1, 3);
            same("3 without one of two equal cells, and 2", cake.isMild(0, 1), false);
            cake.setValue(0, 1, 2);
            same("2 without the dearest, which is the last", cake.isMild(0, 1), true);
        });
        says(NO_SIBLINGS, () -> {
            refusedForNoSibling("isMild(sibling, 0)", (cake, sibling) -> cake.isMild(sibling, 0));
            refusedForNoSibling("isMild(0, sibling)", (cake, sibling) -> cake.isMild(0, sibling));
            refusedForNoSibling("isMild twice", (cake, sibling) -> cake.isMild(sibling, sibling));
        });
        says("Throws `IllegalStateException` if sibling does not envy other", () -> {
            for (int sibling = 0; sibling < 3; sibling++) {
                int same = sibling;
                refused("isMild to itself", NO_STATE, cake -> cake.isMild(same, same));
            }
            refused("isMild without shares", CakeDivision::new, NO_STATE, cake -> cake.isMild(0, 1));
            refused("isMild with less", () -> Cakes.envying("", ""), NO_STATE, cake -> cake.isMild(0, 1));
            refused("isMild of the envied one", () -> Cakes.envying("1", ""), NO_STATE, cake -> cake.isMild(1, 0));
            refused("isMild of one alone", () -> Cakes.of(Busy.SMALLEST), NO_STATE, cake -> cake.isMild(0, 0));
            refused("isMild with as much", () -> shared("cake 2;sibling a 5 5;sibling b 5 5;", "01"), NO_STATE,
                cake -> cake.isMild(0, 1));
        });
    }

    private void envyCount() {
        in("Promise 23: envyCount");
        plain("Counts the envies.");
        says("Returns the number of ordered pairs of siblings of which the first one envies the second one.", () -> {
            same("no shares", greatest().envyCount(), 0);
            same("one alone", shared(Busy.SMALLEST, "0").envyCount(), 0);
            same("one", Cakes.envying("1", "").envyCount(), 1);
            same("one the other way", Cakes.envying("", "0").envyCount(), 1);
            same("both ways", Cakes.envying("1", "0").envyCount(), 2);
            same("all of six", Cakes.envying(ALL_ENVY_ALL).envyCount(), 30);
            same("equal shares", shared(Cakes.equal(6, 6, 9), "012345").envyCount(), 0);
        });
    }

    private void strongEnvyCount() {
        in("Promise 24: strongEnvyCount");
        plain("Counts the envies that are not mild.");
        says("Returns the number of envies that are not mild.", () -> {
            same("no shares", greatest().strongEnvyCount(), 0);
            same("one alone", shared(Busy.SMALLEST, "0").strongEnvyCount(), 0);
            same("30 mild ones", Cakes.envying(ALL_ENVY_ALL).strongEnvyCount(), 0);
            same("30 strong ones", strongEnvies().strongEnvyCount(), 30);
            CakeDivision cake = shared("cake 4;sibling a 2 2 2 2;sibling b 1 1 1 1;sibling c 1 1 1 1;", "011-");
            same("a mild one, and c's strong and mild ones", cake.strongEnvyCount(), 1);
            cake.give(1, 3, 3);
            same("a strong one, and c's", cake.strongEnvyCount(), 2);
        });
    }

    private void mostEnvied() {
        in("Promise 25: mostEnvied");
        plain("Returns the sibling who is envied most.");
        says("Returns the sibling whom the most siblings envy;", () -> {
            same("the first", Cakes.envying("", "0", "0", "1", "1", "0").mostEnvied(), 0);
            same("the last", Cakes.envying("5", "5", "5", "0", "0", "").mostEnvied(), 5);
            same("one alone", smallest().mostEnvied(), 0);
            same("by one", Cakes.envying("", "", "1").mostEnvied(), 1);
        });
        says("the lowest number wins a tie.", () -> {
            same("nobody is envied", greatest().mostEnvied(), 0);
            same("all are envied by all", Cakes.envying(ALL_ENVY_ALL).mostEnvied(), 0);
            same("the last two", Cakes.envying("4", "5", "4", "5", "", "").mostEnvied(), 4);
            same("the first and the last", Cakes.envying("5", "0", "", "", "5", "0").mostEnvied(), 0);
        });
    }

    private void isSatisfied() {
        in("Promise 26: isSatisfied");
        plain("Tells whether a sibling is satisfied.");
        says(SIBLING, () -> {
            CakeDivision cake = shared(Busy.GREATEST, "5".repeat(24));
            same("the first of six", cake.isSatisfied(0), false);
            same("the last of six", cake.isSatisfied(5), true);
        });
        says("Returns whether it is.", () -> {
            CakeDivision cake = shared("cake 2;sibling a 3 3;sibling b 1 1;", "0-");
            same("3 * 2 of 6", cake.isSatisfied(0), true);
            cake.setValue(0, 1, 4);
            same("3 * 2 of 7", cake.isSatisfied(0), false);
            same("an empty share", cake.isSatisfied(1), false);
            CakeDivision worthless = Cakes.of(Cakes.equal(24, 6, 0));
            same("an empty share of a worthless cake", worthless.isSatisfied(5), true);
            CakeDivision sixth = shared(Cakes.equal(24, 6, 9), "0000");
            same("36 * 6 of 216", sixth.isSatisfied(0), true);
            sixth.setValue(0, 3, 8);
            same("35 * 6 of 215", sixth.isSatisfied(0), false);
            same("one alone without its cell", smallest().isSatisfied(0), false);
            same("one alone with it", shared(Busy.SMALLEST, "0").isSatisfied(0), true);
        });
        says(NO_SIBLING, () -> refusedForNoSibling("isSatisfied", (cake, sibling) -> cake.isSatisfied(sibling)));
    }

    private void satisfiedCount() {
        in("Promise 27: satisfiedCount");
        plain("Counts the satisfied siblings.");
        says("Returns their number.", () -> {
            same("none of six", greatest().satisfiedCount(), 0);
            same("one of six", shared(Busy.GREATEST, "5".repeat(24)).satisfiedCount(), 1);
            same("all of six", shared(Cakes.equal(6, 6, 9), "012345").satisfiedCount(), 6);
            same("all of six with a worthless cake", Cakes.of(Cakes.equal(24, 6, 0)).satisfiedCount(), 6);
            same("none of one", smallest().satisfiedCount(), 0);
            same("one of one", shared(Busy.SMALLEST, "0").satisfiedCount(), 1);
        });
    }

    private void envyCycleLength() {
        in("Promise 28: envyCycleLength");
        says("Returns the length of the shortest envy cycle through a sibling.", () -> {
            same("two and three", Cakes.envying("12", "2", "0").envyCycleLength(0), 2);
            same("three and four", Cakes.envying("12", "2", "3", "0").envyCycleLength(0), 3);
            same("five and six", Cakes.envying("1", "2", "3", "4", "05", "0").envyCycleLength(0), 5);
            same("the shorter one is not through it", Cakes.envying("1", "2", "13", "0").envyCycleLength(0), 4);
        });
        says(SIBLING, () -> {
            same("the first of six", Cakes.envying("5", "", "", "", "", "0").envyCycleLength(0), 2);
            same("the last of six", Cakes.envying("5", "", "", "", "", "0").envyCycleLength(5), 2);
        });
        says("Returns the length;", () -> {
            same("the least", Cakes.envying(ALL_ENVY_ALL).envyCycleLength(5), 2);
            same("the greatest", Cakes.envying("1", "2", "3", "4", "5", "0").envyCycleLength(5), 6);
            same("the greatest the other way", Cakes.envying("5", "0", "1", "2", "3", "4").envyCycleLength(0), 6);
        });
        says("NONE if there is no envy cycle that contains the sibling.", () -> {
            same("no shares", first().envyCycleLength(0), NONE);
            same("one alone", shared(Busy.SMALLEST, "0").envyCycleLength(0), NONE);
            same("two who do not envy", Cakes.envying("", "").envyCycleLength(1), NONE);
            same("before a cycle", Cakes.envying("1", "2", "1").envyCycleLength(0), NONE);
            same("behind a cycle", Cakes.envying("1", "02", "").envyCycleLength(2), NONE);
            same("beside a cycle", Cakes.envying("1", "0", "").envyCycleLength(2), NONE);
        });
        says(NO_SIBLING, () -> refusedForNoSibling("envyCycleLength",
            (cake, sibling) -> cake.envyCycleLength(sibling)));
    }

    private void envyCycleMember() {
        in("Promise 29: envyCycleMember");
        plain("Returns a sibling of the shortest envy cycle through a sibling.");
        says("If several cycles have the least length, the one counts whose sequence of numbers, starting with the "
            + "given sibling, is lexicographically smallest.", this::smallestSequences);
        says(SIBLING, () -> {
            members(Cakes.envying("5", "", "", "", "", "0"), 0, "05");
            members(Cakes.envying("5", "", "", "", "", "0"), 5, "50");
        });
        says("- `position`: position in the cycle, 0 for the given sibling", () -> {
            members(Cakes.envying("1", "0"), 0, "01");
            members(Cakes.envying("1", "0"), 1, "10");
            members(Cakes.envying("1", "2", "3", "4", "5", "0"), 3, "345012");
        });
        says("Returns the number of the member.", () -> {
            members(Cakes.envying("1", "2", "3", "4", "5", "0"), 0, "012345");
            members(Cakes.envying("5", "0", "1", "2", "3", "4"), 0, "054321");
        });
        says(NO_SIBLING, () -> {
            refusedForNoSibling("envyCycleMember(sibling, 0)", (cake, sibling) -> cake.envyCycleMember(sibling, 0));
            refusedForNoSibling("envyCycleMember(sibling, -1)", (cake, sibling) -> cake.envyCycleMember(sibling, -1));
        });
        says("Throws `NoSuchElementException` if there is no such cycle, or position is negative or not less than its "
            + "length", () -> {
            refused("no shares", CakeDivision::new, NO_ELEMENT, cake -> cake.envyCycleMember(0, 0));
            refused("one alone", () -> Cakes.of(Busy.SMALLEST), NO_ELEMENT, cake -> cake.envyCycleMember(0, 0));
            refused("no cycle, position -1", CakeDivision::new, NO_ELEMENT, cake -> cake.envyCycleMember(0, -1));
            refused("beside a cycle", () -> Cakes.envying("1", "0", ""), NO_ELEMENT,
                cake -> cake.envyCycleMember(2, 0));
            noMember(2, "1", "0", "");
            noMember(3, "1", "2", "0", "");
            noMember(6, "1", "2", "3", "4", "5", "0");
        });
    }

    private void smallestSequences() {
        members(Cakes.envying(ALL_ENVY_ALL), 0, "01");
        members(Cakes.envying(ALL_ENVY_ALL), 1, "10");
        members(Cakes.envying(ALL_ENVY_ALL), 5, "50");
        members(Cakes.envying("12", "3", "3", "0"), 0, "013");
        members(Cakes.envying("12", "3", "3", "0"), 3, "301");
        // The second members tie, the third ones decide.
        members(Cakes.envying("1", "23", "0", "0"), 0, "012");
        // The smaller second member leads to a longer cycle only.
        members(Cakes.envying("12", "3", "0", "0"), 0, "02");
        // The smaller second member leads to a greater third one.
        members(Cakes.envying("12", "4", "3", "0", "0"), 0, "014");
        // The last member decides.
        members(Cakes.envying("1", "2", "3", "45", "0", "0"), 0, "01234");
    }

    private void members(CakeDivision cake, int sibling, String due) {
        StringBuilder found = new StringBuilder();
        for (int position = 0; position < due.length(); position++) {
            found.append(cake.envyCycleMember(sibling, position));
        }
        same("the members", found.toString(), due);
        same("their number", cake.envyCycleLength(sibling), due.length());
    }

    private void noMember(int length, String... envied) {
        for (int position : new int[] {Integer.MIN_VALUE, -1, length, 6, Integer.MAX_VALUE}) {
            refused("position " + position + " of " + length, () -> Cakes.envying(envied), NO_ELEMENT,
                cake -> cake.envyCycleMember(0, position));
        }
        same("the last position", Cakes.envying(envied).envyCycleMember(0, length - 1), length - 1);
    }

    private void wouldSwap() {
        in("Promise 30: wouldSwap");
        plain("Tells whether two siblings would both gain by exchanging their shares.");
        says(SIBLING, () -> {
            same("the first of six", Cakes.envying("5", "", "", "", "", "0").wouldSwap(0, 5), true);
            same("the last of six", Cakes.envying("5", "", "", "", "", "0").wouldSwap(5, 0), true);
        });
        says(OTHER, () -> {
            same("the last of six", Cakes.envying("5", "", "", "", "", "0").wouldSwap(0, 5), true);
            same("the last but one", Cakes.envying("5", "", "", "", "", "0").wouldSwap(0, 4), false);
        });
        says("Returns whether each of the two envies the other one.", () -> {
            same("both", Cakes.envying("1", "0").wouldSwap(0, 1), true);
            same("only the first", Cakes.envying("1", "").wouldSwap(0, 1), false);
            same("only the second", Cakes.envying("", "0").wouldSwap(0, 1), false);
            same("none", Cakes.envying("", "").wouldSwap(0, 1), false);
            same("the same", Cakes.envying("1", "0").wouldSwap(0, 0), false);
            same("equal shares", shared(Cakes.equal(2, 2, 5), "01").wouldSwap(0, 1), false);
        });
        says(NO_SIBLINGS, () -> {
            refusedForNoSibling("wouldSwap(sibling, 0)", (cake, sibling) -> cake.wouldSwap(sibling, 0));
            refusedForNoSibling("wouldSwap(0, sibling)", (cake, sibling) -> cake.wouldSwap(0, sibling));
            refusedForNoSibling("wouldSwap twice", (cake, sibling) -> cake.wouldSwap(sibling, sibling));
        });
    }
}

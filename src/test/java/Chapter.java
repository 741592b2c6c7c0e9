import java.util.NoSuchElementException;
import java.util.function.Supplier;

/** A part of the document, tested sentence by sentence; see Sentences. */
abstract class Chapter {
    static final Class<IndexOutOfBoundsException> NO_INDEX = IndexOutOfBoundsException.class;
    static final Class<IllegalArgumentException> NO_ARGUMENT = IllegalArgumentException.class;
    static final Class<IllegalStateException> NO_STATE = IllegalStateException.class;
    static final Class<NoSuchElementException> NO_ELEMENT = NoSuchElementException.class;
    static final int NONE = CakeDivision.NONE;
    private static final int NO_ERROR = 0;

    /** Sentences that several promises have. */
    static final String SIBLING = "- `sibling`: number of a sibling";
    static final String OTHER = "- `other`: number of a sibling";
    static final String FROM = "- `from`: first cell";
    static final String TO = "- `to`: last cell, not less than from";
    static final String NO_SIBLING = "Throws `IndexOutOfBoundsException` if the sibling does not exist";
    static final String NO_SIBLINGS = "Throws `IndexOutOfBoundsException` if one of the siblings does not exist";
    static final String NO_CELLS =
        "Throws `IllegalArgumentException` if from or to is not the number of a cell, or from is greater than to";

    /** Six siblings of four cells each, and six who all envy each other. */
    static final String BLOCKS = "000011112222333344445555";
    static final String[] ALL_ENVY_ALL = {"12345", "02345", "01345", "01245", "01235", "01234"};

    private final Sentences sentences;
    final Check check;

    Chapter(Sentences sentences, Check check) {
        this.sentences = sentences;
        this.check = check;
    }

    abstract void test();

    interface Call {
        void on(CakeDivision cake);
    }

    interface NumberCall {
        void on(CakeDivision cake, int number);
    }

    void in(String section) {
        sentences.in(section);
    }

    void says(String sentence, Runnable test) {
        sentences.says(sentence, test);
    }

    void plain(String... others) {
        sentences.plain(others);
    }

    void same(String call, long got, long due) {
        check.same(call, got, due);
    }

    void same(String call, boolean got, boolean due) {
        check.same(call, got, due);
    }

    void same(String call, String got, String due) {
        check.same(call, got, due);
    }

    static CakeDivision first() {
        return new CakeDivision();
    }

    static CakeDivision smallest() {
        return Cakes.of(Busy.SMALLEST);
    }

    static CakeDivision greatest() {
        return Cakes.of(Busy.GREATEST);
    }

    /** What sibling s of the greatest cake values the cells from from to to with. */
    static int dueInGreatest(int sibling, int from, int to) {
        int sum = 0;
        for (int cell = from; cell <= to; cell++) {
            sum += (sibling + cell) % 10;
        }
        return sum;
    }

    static CakeDivision shared(String setup, String owners) {
        CakeDivision cake = Cakes.of(setup);
        Cakes.share(cake, owners);
        return cake;
    }

    /** The call on a busy object throws just this, and the object stays as another one without the call. */
    void refused(String call, Class<? extends RuntimeException> due, Call action) {
        refused(call, Busy::cake, due, action);
    }

    void refused(String call, Supplier<CakeDivision> maker, Class<? extends RuntimeException> due, Call action) {
        CakeDivision cake = maker.get();
        check.throwing(call, due, () -> action.on(cake));
        same(call + " changes nothing", Busy.probe(cake), Busy.probe(maker.get()));
    }

    void refusedFor(String call, int[] numbers, Class<? extends RuntimeException> due, NumberCall action) {
        for (int number : numbers) {
            refused(call + " with " + number, due, cake -> action.on(cake, number));
        }
    }

    /** The numbers just below and just above those of the siblings, on cakes of each size. */
    void refusedForNoSibling(String call, NumberCall action) {
        for (Busy.Size size : Busy.SIZES) {
            for (int number : new int[] {Integer.MIN_VALUE, -1, size.siblings(), Integer.MAX_VALUE}) {
                refused(call + " with " + number + " of " + size.siblings(), () -> Busy.cake(size.setup()), NO_INDEX,
                    cake -> action.on(cake, number));
            }
        }
    }

    /** The numbers just below and just above those of the cells, on cakes of each size. */
    void refusedForNoCell(String call, Class<? extends RuntimeException> due, NumberCall action) {
        for (Busy.Size size : Busy.SIZES) {
            for (int number : new int[] {Integer.MIN_VALUE, -1, size.cells(), Integer.MAX_VALUE}) {
                refused(call + " with " + number + " of " + size.cells(), () -> Busy.cake(size.setup()), due,
                    cake -> action.on(cake, number));
            }
        }
    }

    void loads(String text) {
        CakeDivision cake = first();
        Cakes.type(cake, text);
        check.throwing("load of '" + text + "'", null, () -> cake.load());
        tellError(cake, text, NO_ERROR, NONE);
    }

    void runs(String text) {
        runs(Busy.FIRST, text);
    }

    void runs(String setup, String text) {
        CakeDivision cake = Cakes.of(setup);
        Cakes.type(cake, text);
        check.throwing("runScript of '" + text + "'", null, () -> cake.runScript());
        tellError(cake, text, NO_ERROR, NONE);
    }

    void loadFails(String text, int code, int position) {
        CakeDivision cake = first();
        Cakes.type(cake, text);
        check.throwing("load of '" + text + "'", NO_ARGUMENT, () -> cake.load());
        tellError(cake, text, code, position);
    }

    void scriptFails(String text, int code, int position) {
        CakeDivision cake = first();
        Cakes.type(cake, text);
        check.throwing("runScript of '" + text + "'", NO_ARGUMENT, () -> cake.runScript());
        tellError(cake, text, code, position);
    }

    private void tellError(CakeDivision cake, String text, int code, int position) {
        same("the error code of '" + text + "'", cake.errorCode(), code);
        same("the error position of '" + text + "'", cake.errorPosition(), position);
    }
}

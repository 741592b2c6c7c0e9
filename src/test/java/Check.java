/** Compares answers with those that are due, tells the others, and ends the program with 1 if there were any. */
final class Check {
    private final String name;
    private String about = "";
    private int answers;
    private int wrong;

    Check(String name) {
        this.name = name;
    }

    /** Names what the answers from here on are about; it is told with each wrong one. */
    void about(String subject) {
        about = subject.isEmpty() ? "" : subject + ": ";
    }

    int answers() {
        return answers;
    }

    void same(String call, long got, long due) {
        note(call, got == due, String.valueOf(got), String.valueOf(due));
    }

    void same(String call, boolean got, boolean due) {
        note(call, got == due, String.valueOf(got), String.valueOf(due));
    }

    void same(String call, String got, String due) {
        note(call, got.equals(due), got, due);
    }

    void sameFloat(String call, float got, float due) {
        note(call, Float.compare(got, due) == 0, String.valueOf(got), String.valueOf(due));
    }

    void sameDouble(String call, double got, double due) {
        note(call, Double.compare(got, due) == 0, String.valueOf(got), String.valueOf(due));
    }

    /** The call must throw exactly this class and leave everything that can be asked as it was. */
    void refused(String call, CakeDivision cake, Class<? extends RuntimeException> due, Runnable action) {
        String before = Cakes.describe(cake);
        throwing(call, due, action);
        same(call + " leaves all as it was", Cakes.describe(cake), before);
    }

    /** The call must throw exactly this class, or nothing if it is null. */
    void throwing(String call, Class<? extends RuntimeException> due, Runnable action) {
        String got = "nothing";
        try {
            action.run();
        } catch (RuntimeException thrown) {
            got = thrown.getClass().getName();
        }
        String dueName = due == null ? "nothing" : due.getName();
        note(call + " throws", got.equals(dueName), got, dueName);
    }

    void finish() {
        System.out.println(name + ": " + (answers - wrong) + " of " + answers + " answers are as due");
        if (wrong > 0 || answers == 0) {
            System.exit(1);
        }
    }

    private void note(String call, boolean right, String got, String due) {
        answers++;
        if (!right) {
            wrong++;
            System.out.println(name + ": " + about + call + " answered " + got + ", due is " + due);
        }
    }
}

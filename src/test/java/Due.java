/** Compares answers with those that are due; a test ends with finish(). */
final class Due {
    private int wrong = 0;
    private int checks = 0;
    private String part = "";

    /** Names what the next checks belong to. */
    void part(String name) {
        part = name;
    }

    void is(String call, long got, long want) {
        checks++;
        if (got != want) {
            wrong++;
            System.out.println(part + ": " + call + " answered " + got + ", due is " + want);
        }
    }

    void isTrue(String what, boolean holds) {
        is(what, holds ? 1 : 0, 1);
    }

    void finish() {
        System.out.println(checks + " checks, " + wrong + " wrong");
        if (wrong != 0 || checks == 0) {
            System.exit(1);
        }
    }
}

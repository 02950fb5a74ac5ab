/** Compares answers with those that are due, and ends a test with exit code 1 if one was wrong. */
final class Check {
    private static int wrong = 0;
    private static int done = 0;

    private Check() {
    }

    static void same(String call, long got, long due) {
        done++;
        if (got != due) {
            wrong++;
            System.out.println(call + " answered " + got + ", due is " + due);
        }
    }

    static void same(String call, boolean got, boolean due) {
        same(call, got ? 1 : 0, due ? 1 : 0);
    }

    static void that(String what, boolean so) {
        done++;
        if (!so) {
            wrong++;
            System.out.println("not so: " + what);
        }
    }

    static boolean anyWrong() {
        return wrong > 0;
    }

    static void finish(String name) {
        System.out.println(name + ": " + done + " checks, " + wrong + " wrong");
        if (wrong > 0) {
            System.exit(1);
        }
    }
}

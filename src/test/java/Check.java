/** Counts and prints the answers that are not as due; end() closes the test with exit code 1 if there was one. */
final class Check {
    // A fault that shows everywhere would print hundreds of thousands of lines.
    private static final int LINES = 200;

    private static int asked = 0;
    private static int wrong = 0;
    private static int lines = 0;

    private Check() {
    }

    static void due(String what, long got, long want) {
        asked++;
        if (got != want) {
            wrong++;
            tell(what + ": answered " + got + ", due is " + want);
        }
    }

    static void tell(String line) {
        if (lines < LINES) {
            System.out.println(line);
        }
        lines++;
    }

    static void isTrue(String what, boolean holds) {
        due(what, holds ? 1 : 0, 1);
    }

    static void end() {
        if (lines > LINES) {
            System.out.println((lines - LINES) + " lines more are left out");
        }
        System.out.println(asked + " answers looked at, " + wrong + " not as due");
        if (wrong != 0) {
            System.exit(1);
        }
    }
}

/** Counts and prints the answers that are not as due. */
final class Check {
    static final int INVALID = LectureTurns.INVALID_ARGUMENT;
    static final int NOT_POSSIBLE = LectureTurns.NOT_POSSIBLE;
    static final int LIMIT = LectureTurns.LIMIT_REACHED;
    static final int NOT_FOUND = LectureTurns.NOT_FOUND;

    private int wrong;

    void due(String call, long want, long got) {
        if (got != want) {
            wrong++;
            System.out.println(call + " answered " + got + ", due is " + want);
        }
    }

    void holds(String what, boolean condition) {
        if (!condition) {
            wrong++;
            System.out.println("does not hold: " + what);
        }
    }

    /** The sum of the bits of these numbers. */
    static int set(int... numbers) {
        int bits = 0;
        for (int number : numbers) {
            bits |= 1 << number;
        }
        return bits;
    }

    static void type(LectureTurns x, String text) {
        for (int i = 0; i < text.length(); i++) {
            x.type(text.charAt(i));
        }
    }

    void end() {
        if (wrong > 0) {
            System.out.println(wrong + " answers are not as due");
            System.exit(1);
        }
    }
}

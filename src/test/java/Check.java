import java.util.Set;
import java.util.TreeSet;
import java.util.function.Supplier;

/** Counts and prints the answers that are not as due. */
final class Check {
    static final int INVALID = LectureTurns.INVALID_ARGUMENT;
    static final int NOT_POSSIBLE = LectureTurns.NOT_POSSIBLE;
    static final int LIMIT = LectureTurns.LIMIT_REACHED;
    static final int NOT_FOUND = LectureTurns.NOT_FOUND;

    private int wrong;

    void due(String call, long want, long got) {
        if (got != want) {
            wrong++;
            System.out.println(call + " answered " + got + ", due is " + want);
        }
    }

    void holds(String what, boolean condition) {
        if (!condition) {
            wrong++;
            System.out.println("does not hold: " + what);
        }
    }

    /** In this state the call answers this error, and it changes nothing: neither what is now nor the history. */
    void refused(String name, int error, Supplier<LectureTurns> state, Call call) {
        due(name, error, call.on(state.get()));
        String difference = Same.difference(state, States.after(state, call));
        holds(name + " changes nothing, but " + difference, difference.isEmpty());
    }

    /** In this state an argument below or above its range is refused. */
    void outside(String argument, int lowest, int highest, Supplier<LectureTurns> state, CallWith call) {
        for (int value : valuesOutside(lowest, highest)) {
            refused(argument + " " + value, INVALID, state, x -> call.on(x, value));
        }
    }

    /** The next values on both sides, the farthest ones, and those that wrap around into the range. */
    private static Set<Integer> valuesOutside(int lowest, int highest) {
        Set<Integer> values = new TreeSet<>();
        values.add(lowest - 1);
        values.add(highest + 1);
        values.add(Integer.MIN_VALUE);
        values.add(Integer.MAX_VALUE);
        for (int turn : new int[] {32, 256, 65536, Integer.MIN_VALUE}) {
            values.add(lowest + turn);
            values.add(highest - turn);
        }
        values.removeIf(value -> value >= lowest && value <= highest);
        return values;
    }

    /** The sum of the bits of these numbers. */
    static int set(int... numbers) {
        int bits = 0;
        for (int number : numbers) {
            bits |= 1 << number;
        }
        return bits;
    }

    static void type(LectureTurns x, String text) {
        for (int i = 0; i < text.length(); i++) {
            x.type(text.charAt(i));
        }
    }

    void end() {
        if (wrong > 0) {
            System.out.println(wrong + " answers are not as due");
            System.exit(1);
        }
    }
}

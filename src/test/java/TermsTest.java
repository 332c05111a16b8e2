/** Promises 6, 7, 13, 14, 19: correct, uncorrect, termAt, termOf, would. */
public final class TermsTest {
    private static final Check CHECK = new Check();

    public static void main(String[] args) {
        correctCountsThePlaces();
        correctTakesThePlaceOfACorrection();
        correctRefusesWrongArguments();
        correctRefusesChainsThatComeBack();
        theLongestChain();
        uncorrectTakesBack();
        uncorrectRefuses();
        wouldChangesNothing();
        termAtTellsBoth();
        termAtRefuses();
        termOfTellsAll();
        termOfTellsTheLowestTerm();
        termOfRefuses();
        CHECK.end();
    }

    /** Turns with the terms 1 1 2 | 2 3 | none, of the speakers 0, 1 and none. */
    private static LectureTurns example() {
        LectureTurns x = new LectureTurns();
        x.speaker(100);
        x.speaker(200);
        x.turn(0, 10, 100);
        x.turn(10, 20, 200);
        x.turn(20, 30, 400);
        x.say(0, 1);
        x.say(0, 1);
        x.say(0, 2);
        x.say(1, 2);
        x.say(1, 3);
        return x;
    }

    private static void correctCountsThePlaces() {
        LectureTurns x = example();
        CHECK.due("1 to 4", 2, x.correct(1, 4));
        CHECK.due("4 to 2", 2, x.correct(4, 2));
        CHECK.due("2 to 5, and 1 by its chain", 4, x.correct(2, 5));
        CHECK.due("a term that is not said", 0, x.correct(9, 5));
        CHECK.due("corrections", 4, x.count(3));
        CHECK.due("terms stay as told", 1, x.termAt(0, 0, 0));
        CHECK.due("terms that come later", 4, x.say(0, 9));
        CHECK.due("are shown so, too", 5, x.termAt(0, 3, 1));
    }

    private static void correctTakesThePlaceOfACorrection() {
        LectureTurns x = example();
        x.correct(1, 4);
        CHECK.due("the same again", 0, x.correct(1, 4));
        CHECK.due("this is a change", 4, x.count(8));
        x.correct(5, 4);
        CHECK.due("by another way to the same", 0, x.correct(1, 5));
        CHECK.due("corrections", 2, x.count(3));
        CHECK.due("to another one", 2, x.correct(1, 3));
        CHECK.due("its chain's end", 3, x.termOf(1, 1));
        CHECK.due("to what it is shown as else", 2, x.correct(1, 15));
    }

    private static void correctRefusesWrongArguments() {
        LectureTurns x = example();
        int[][] wrong = {{-1, 0}, {16, 0}, {0, -1}, {0, 16}, {3, 3}, {Integer.MIN_VALUE, 0}, {0, Integer.MAX_VALUE},
            {Integer.MAX_VALUE, Integer.MAX_VALUE}};
        for (int[] w : wrong) {
            CHECK.due("correct(" + w[0] + "," + w[1] + ")", Check.INVALID, x.correct(w[0], w[1]));
            CHECK.due("would(" + w[0] + "," + w[1] + ")", Check.INVALID, x.would(w[0], w[1]));
        }
        CHECK.due("corrections", 0, x.count(3));
    }

    private static void correctRefusesChainsThatComeBack() {
        LectureTurns x = example();
        x.correct(1, 2);
        CHECK.due("2 to 1", Check.NOT_POSSIBLE, x.correct(2, 1));
        x.correct(2, 3);
        CHECK.due("3 to 1", Check.NOT_POSSIBLE, x.correct(3, 1));
        CHECK.due("would 3 to 1", Check.NOT_POSSIBLE, x.would(3, 1));
        CHECK.due("2 to 1, in place of 2 to 3", Check.NOT_POSSIBLE, x.correct(2, 1));
        CHECK.due("states", 4, x.count(8));
        CHECK.due("1 to 3, in place of 1 to 2", 0, x.correct(1, 3));
        CHECK.due("2 to 1 now", 0, x.correct(2, 1));
        CHECK.due("2 shows", 3, x.termOf(2, 1));
    }

    private static void theLongestChain() {
        LectureTurns x = new LectureTurns();
        x.turn(0, 1, 100);
        x.say(0, 0);
        for (int i = 14; i >= 1; i--) {
            CHECK.due("correct " + i, 0, x.correct(i, i + 1));
        }
        CHECK.due("correct 0", 1, x.correct(0, 1));
        CHECK.due("shown", 15, x.termAt(0, 0, 1));
        CHECK.due("chain", 15, x.termOf(0, 2));
        CHECK.due("all of them", 0xFFFF, x.termOf(15, 6));
        CHECK.due("back to 0", Check.NOT_POSSIBLE, x.correct(15, 0));
        CHECK.due("cut in the middle", 1, x.uncorrect(7));
        CHECK.due("shown", 7, x.termAt(0, 0, 1));
        CHECK.due("15 to 0 now", 0, x.correct(15, 0));
        CHECK.due("8 shows", 7, x.termOf(8, 1));
    }

    private static void uncorrectTakesBack() {
        LectureTurns x = example();
        x.correct(1, 4);
        x.correct(4, 2);
        CHECK.due("uncorrect(4)", 2, x.uncorrect(4));
        CHECK.due("1 shows", 4, x.termOf(1, 1));
        CHECK.due("uncorrect(1)", 2, x.uncorrect(1));
        CHECK.due("1 shows", 1, x.termOf(1, 1));
        x.correct(9, 8);
        CHECK.due("a term that is not said", 0, x.uncorrect(9));
        CHECK.due("corrections", 0, x.count(3));
    }

    private static void uncorrectRefuses() {
        LectureTurns x = example();
        CHECK.due("not corrected", Check.NOT_POSSIBLE, x.uncorrect(1));
        CHECK.due("-1", Check.INVALID, x.uncorrect(-1));
        CHECK.due("16", Check.INVALID, x.uncorrect(16));
        x.correct(1, 2);
        CHECK.due("the target", Check.NOT_POSSIBLE, x.uncorrect(2));
    }

    private static void wouldChangesNothing() {
        LectureTurns x = example();
        x.correct(4, 2);
        int states = x.count(8);
        CHECK.due("would(1,4)", 2, x.would(1, 4));
        CHECK.due("would(2,4)", Check.NOT_POSSIBLE, x.would(2, 4));
        CHECK.due("would(2,7)", 2, x.would(2, 7));
        CHECK.due("would(3,1)", 1, x.would(3, 1));
        CHECK.due("would(4,2)", 0, x.would(4, 2));
        CHECK.due("corrections", 1, x.count(3));
        CHECK.due("states", states, x.count(8));
        CHECK.due("1 shows", 1, x.termOf(1, 1));
    }

    private static void termAtTellsBoth() {
        LectureTurns x = example();
        x.correct(2, 3);
        CHECK.due("told", 2, x.termAt(0, 2, 0));
        CHECK.due("shown", 3, x.termAt(0, 2, 1));
        CHECK.due("not corrected", 3, x.termAt(1, 1, 1));
    }

    private static void termAtRefuses() {
        LectureTurns x = example();
        CHECK.due("no turn", Check.INVALID, x.termAt(3, 0, 0));
        CHECK.due("place -1", Check.INVALID, x.termAt(-1, 0, 0));
        CHECK.due("index -1", Check.INVALID, x.termAt(0, -1, 0));
        CHECK.due("what -1", Check.INVALID, x.termAt(0, 0, -1));
        CHECK.due("what 2", Check.INVALID, x.termAt(0, 0, 2));
        CHECK.due("what 2 and no term", Check.INVALID, x.termAt(0, 3, 2));
        CHECK.due("no term", Check.NOT_FOUND, x.termAt(0, 3, 0));
        CHECK.due("no term in a row", Check.NOT_FOUND, x.termAt(0, 8, 1));
        CHECK.due("no term at all", Check.NOT_FOUND, x.termAt(2, 0, 1));
        CHECK.due("index MAX", Check.NOT_FOUND, x.termAt(0, Integer.MAX_VALUE, 1));
    }

    private static void termOfTellsAll() {
        LectureTurns x = example();
        x.say(2, 2);
        x.correct(1, 2);
        x.correct(2, 6);
        int[][] due = {{2, 6, 2, 0, 0, 0, 0}, {6, 6, 1, 0, 0, 0, 0},
            {Check.NOT_FOUND, 3, 0, 1, Check.set(1), Check.set(1), Check.set(3)},
            {Check.NOT_FOUND, 6, 0, 5, Check.set(0, 1, 2), Check.set(0, 1), Check.set(1, 2, 6)}};
        int[] terms = {1, 2, 3, 6};
        for (int i = 0; i < terms.length; i++) {
            for (int what = 0; what < 7; what++) {
                CHECK.due("termOf(" + terms[i] + "," + what + ")", due[i][what], x.termOf(terms[i], what));
            }
        }
    }

    private static void termOfTellsTheLowestTerm() {
        LectureTurns x = new LectureTurns();
        x.speaker(100);
        x.turn(0, 1, 100);
        x.turn(1, 2, 100);
        x.say(0, 0);
        x.say(1, 0);
        CHECK.due("places", 2, x.termOf(0, 3));
        CHECK.due("turns", Check.set(0, 1), x.termOf(0, 4));
        CHECK.due("one speaker of both", Check.set(0), x.termOf(0, 5));
        CHECK.due("correct(0,1)", 2, x.correct(0, 1));
        CHECK.due("corrections", 1, x.count(3));
    }

    private static void termOfRefuses() {
        LectureTurns x = example();
        CHECK.due("term -1", Check.INVALID, x.termOf(-1, 0));
        CHECK.due("term 16", Check.INVALID, x.termOf(16, 0));
        CHECK.due("what -1", Check.INVALID, x.termOf(0, -1));
        CHECK.due("what 7", Check.INVALID, x.termOf(0, 7));
        CHECK.due("not corrected", Check.NOT_FOUND, x.termOf(0, 0));
    }
}

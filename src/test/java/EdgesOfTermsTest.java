import java.util.function.Supplier;

/** The boundary cases that the document names for terms: "Terms" and promises 6, 7, 13, 14, 19 and 20. */
public final class EdgesOfTermsTest {
    private static final Check CHECK = new Check();

    public static void main(String[] args) {
        correctATermFrom0To15();
        correctToAnotherOneFrom0To15();
        noChainMayComeBack();
        byWhatItWouldBeThen();
        aChainOfAllTerms();
        inPlaceOfTheCorrectionThatThereWas();
        correctToWhatItIsAlready();
        shownAsAnotherTermThenThanBefore();
        placesOfAllTurns();
        uncorrectATermFrom0To15();
        uncorrectOneThatIsNotCorrected();
        wouldRefusesAsCorrect();
        wouldTellsWhatCorrectTells();
        turnsKeepTheTermsAsTheyWereTold();
        aTermAtAPlaceThatThereIs();
        aTermAtAnIndexThatThereIs();
        aTermToldOrShown();
        somethingOfATermFrom0To15();
        somethingOfATermThatThereIs();
        aTermThatIsNotCorrected();
        aTermThatNoTurnShows();
        aTermThatAllTurnsShow();
        aTermOfTurnsWithoutASpeaker();
        togetherTellsWhatThereIs();
        togetherWithoutAny();
        togetherInTheFewestAndTheMostTurns();
        togetherTheLowestAndTheHighestTerms();
        togetherOfSeveral();
        CHECK.end();
    }

    /** 0 to 1, 1 to 2, and so on: all end at 15. */
    private static LectureTurns chainOfAll() {
        LectureTurns x = States.some();
        for (int term = 0; term < 15; term++) {
            x.correct(term, term + 1);
        }
        return x;
    }

    /** "term: 0 to 15" */
    private static void correctATermFrom0To15() {
        CHECK.due("correct(0, 7)", 0, States.some().correct(0, 7));
        CHECK.due("correct(15, 7)", 0, States.some().correct(15, 7));
        CHECK.outside("correct's term", 0, 15, States::some, (x, term) -> x.correct(term, 7));
        CHECK.outside("correct's term of none", 0, 15, States::empty, (x, term) -> x.correct(term, 7));
    }

    /** "to: 0 to 15, another one"; "INVALID_ARGUMENT if ... both are the same" */
    private static void correctToAnotherOneFrom0To15() {
        CHECK.due("correct(3, 0)", 2, States.some().correct(3, 0));
        CHECK.due("correct(3, 15)", 2, States.some().correct(3, 15));
        CHECK.outside("correct's to", 0, 15, States::some, (x, to) -> x.correct(3, to));
        for (int k = 0; k < 16; k++) {
            int term = k;
            CHECK.refused(term + " to itself", Check.INVALID, States::some, x -> x.correct(term, term));
            CHECK.refused(term + " to itself in a chain", Check.INVALID, EdgesOfTermsTest::chainOfAll,
                    x -> x.correct(term, term));
        }
        CHECK.refused("-1 to itself", Check.INVALID, States::some, x -> x.correct(-1, -1));
        CHECK.refused("16 to itself", Check.INVALID, States::some, x -> x.correct(16, 16));
    }

    /** "No chain of corrections may come back to a term"; "NOT_POSSIBLE if a chain would come back" */
    private static void noChainMayComeBack() {
        CHECK.refused("a chain of two", Check.NOT_POSSIBLE, States::some, x -> x.correct(4, 3));
        CHECK.refused("the last of three to the second", Check.NOT_POSSIBLE, States::some, x -> x.correct(6, 4));
        CHECK.refused("the last of three to the first", Check.NOT_POSSIBLE, States::some, x -> x.correct(6, 3));
        Supplier<LectureTurns> outermost = States.after(States::empty, x -> x.correct(0, 15));
        CHECK.refused("15 to 0", Check.NOT_POSSIBLE, outermost, x -> x.correct(15, 0));
        CHECK.due("to one beside the chain", 3, States.some().correct(4, 7));
        CHECK.due("from one beside the chain", 0, States.some().correct(7, 3));
        CHECK.due("from its last one", 3, States.some().correct(6, 0));
    }

    /** "(by what it would be then)": the correction that is replaced counts no more. */
    private static void byWhatItWouldBeThen() {
        LectureTurns x = States.some();
        CHECK.due("3 to 6, past 4", 0, x.correct(3, 6));
        CHECK.due("4 to 3 now", 0, x.correct(4, 3));
        CHECK.due("4 is shown as", 6, x.termOf(4, 1));
        CHECK.due("by two corrections", 2, x.termOf(4, 2));
        CHECK.refused("the second to the first, in place of its own", Check.NOT_POSSIBLE, States::some,
                y -> y.correct(4, 3));
    }

    /** The longest chain: each term but one is corrected, and none of them may be corrected back. */
    private static void aChainOfAllTerms() {
        LectureTurns x = chainOfAll();
        CHECK.due("0 is shown as", 15, x.termOf(0, 1));
        CHECK.due("corrections on the chain of 0", 15, x.termOf(0, 2));
        CHECK.due("corrections on the chain of 14", 1, x.termOf(14, 2));
        CHECK.due("corrections on the chain of 15", 0, x.termOf(15, 2));
        CHECK.due("shown as 15", 0xFFFF, x.termOf(15, 6));
        CHECK.due("corrections", 15, x.count(3));
        for (int k = 0; k < 15; k++) {
            int to = k;
            CHECK.refused("15 to " + to, Check.NOT_POSSIBLE, EdgesOfTermsTest::chainOfAll, y -> y.correct(15, to));
            CHECK.refused((to + 1) + " to " + to, Check.NOT_POSSIBLE, EdgesOfTermsTest::chainOfAll,
                    y -> y.correct(to + 1, to));
        }
        CHECK.due("0 to 15", 0, x.correct(0, 15));
        CHECK.due("0 is shown as it was", 15, x.termOf(0, 1));
        CHECK.due("1 to 0", 0, x.correct(1, 0));
    }

    /** "in place of the correction that there was" */
    private static void inPlaceOfTheCorrectionThatThereWas() {
        LectureTurns x = States.some();
        CHECK.due("3 to 0 in place of 4", 2, x.correct(3, 0));
        CHECK.due("corrections", 2, x.count(3));
        CHECK.due("3 is corrected to", 0, x.termOf(3, 0));
        CHECK.due("one taken back", 2, x.uncorrect(3));
        CHECK.due("3 is shown as itself, not as 4", 3, x.termOf(3, 1));
        CHECK.due("corrections", 1, x.count(3));
    }

    /** A correction that is there already is no error, and a change, though it changes no place. */
    private static void correctToWhatItIsAlready() {
        LectureTurns x = new LectureTurns();
        x.turn(0, 1, 100);
        x.say(0, 3);
        CHECK.due("correct", 1, x.correct(3, 4));
        CHECK.due("correct again", 0, x.correct(3, 4));
        CHECK.due("states", 4, x.count(8));
        CHECK.due("undo", 3, x.undo());
        CHECK.due("corrected once", 4, x.termOf(3, 0));
        CHECK.due("undo", 2, x.undo());
        CHECK.due("not corrected", Check.NOT_FOUND, x.termOf(3, 0));
    }

    /** "how many places of all turns are shown as another term then than before" */
    private static void shownAsAnotherTermThenThanBefore() {
        LectureTurns x = States.some();
        CHECK.due("to what it is shown as", 0, x.correct(3, 6));
        CHECK.due("back by way of 4, which is shown as 6, too", 0, x.correct(3, 4));
        CHECK.due("all of the chain by its last one", 3, x.correct(6, 15));
        CHECK.due("those that lead to its second one", 3, x.correct(4, 0));
        CHECK.due("a term that is told nowhere", 0, x.correct(15, 14));
        CHECK.due("to the term that is told", 3, x.correct(4, 5));
        CHECK.due("both are shown as one", 4, x.termOf(5, 3));
    }

    /** "how many places of all turns": each place counts, also several of one turn; none at all, and 160. */
    private static void placesOfAllTurns() {
        LectureTurns none = new LectureTurns();
        CHECK.due("no turns", 0, none.correct(0, 1));
        none.turn(0, 1, 100);
        CHECK.due("no terms", 0, none.uncorrect(0));
        LectureTurns x = new LectureTurns();
        for (int i = 0; i < 20; i++) {
            x.turn(i, i + 1, 100);
            for (int k = 0; k < 8; k++) {
                x.say(i, 9);
            }
        }
        CHECK.due("would", 160, x.would(9, 0));
        CHECK.due("correct", 160, x.correct(9, 0));
        CHECK.due("correct its end", 160, x.correct(0, 15));
        CHECK.due("places", 160, x.termOf(15, 3));
        CHECK.due("uncorrect its end", 160, x.uncorrect(0));
        CHECK.due("uncorrect", 160, x.uncorrect(9));
    }

    /** "term: 0 to 15", of uncorrect. */
    private static void uncorrectATermFrom0To15() {
        LectureTurns x = States.some();
        x.correct(0, 15);
        x.correct(15, 1);
        x.say(0, 0);
        CHECK.due("uncorrect(15)", 1, x.uncorrect(15));
        CHECK.due("0 is shown as", 15, x.termOf(0, 1));
        CHECK.due("uncorrect(0)", 1, x.uncorrect(0));
        CHECK.due("0 is shown as itself", 0, x.termOf(0, 1));
        CHECK.outside("uncorrect's term", 0, 15, States::some, LectureTurns::uncorrect);
        CHECK.outside("uncorrect's term of none", 0, 15, States::empty, LectureTurns::uncorrect);
        CHECK.outside("uncorrect's term of all", 0, 15, States::full, LectureTurns::uncorrect);
    }

    /** "NOT_POSSIBLE if it is not corrected" */
    private static void uncorrectOneThatIsNotCorrected() {
        for (int k = 0; k < 16; k++) {
            int term = k;
            CHECK.refused("not corrected: " + term, Check.NOT_POSSIBLE, States::empty, x -> x.uncorrect(term));
            if (term != 3 && term != 4) {
                CHECK.refused("beside it: " + term, Check.NOT_POSSIBLE, States::some, x -> x.uncorrect(term));
            }
        }
        CHECK.refused("the end of the chain of all", Check.NOT_POSSIBLE, States::full, x -> x.uncorrect(15));
        CHECK.refused("a second time", Check.NOT_POSSIBLE, States.after(States::some, x -> x.uncorrect(4)),
                x -> x.uncorrect(4));
    }

    /** "INVALID_ARGUMENT, NOT_POSSIBLE as for correct()." */
    private static void wouldRefusesAsCorrect() {
        CHECK.outside("would's term", 0, 15, States::some, (x, term) -> x.would(term, 7));
        CHECK.outside("would's to", 0, 15, States::some, (x, to) -> x.would(3, to));
        for (int k = 0; k < 16; k++) {
            int term = k;
            CHECK.refused(term + " to itself", Check.INVALID, EdgesOfTermsTest::chainOfAll, x -> x.would(term, term));
        }
        for (int k = 0; k < 15; k++) {
            int to = k;
            CHECK.refused("15 to " + to, Check.NOT_POSSIBLE, EdgesOfTermsTest::chainOfAll, x -> x.would(15, to));
        }
        CHECK.refused("a chain of two", Check.NOT_POSSIBLE, States::some, x -> x.would(4, 3));
        CHECK.refused("a chain of three", Check.NOT_POSSIBLE, States::some, x -> x.would(6, 3));
    }

    /** "how many places of all turns would be shown as another term by a correction", which it does not make. */
    private static void wouldTellsWhatCorrectTells() {
        for (int term = 0; term < 16; term++) {
            LectureTurns x = States.some();
            for (int to = 0; to < 16; to++) {
                LectureTurns corrected = States.some();
                CHECK.due("would(" + term + ", " + to + ")", corrected.correct(term, to), x.would(term, to));
            }
        }
        String difference = Same.difference(States::some, States.after(States::some, x -> x.would(6, 15)));
        CHECK.holds("would changes nothing, but " + difference, difference.isEmpty());
    }

    /** "Turns keep the terms as they were told; each is shown by the corrections of now." */
    private static void turnsKeepTheTermsAsTheyWereTold() {
        LectureTurns x = new LectureTurns();
        x.turn(0, 9, 100);
        x.correct(0, 15);
        x.say(0, 0);
        x.say(0, 15);
        int[] told = {0, 15};
        for (int k = 0; k < 2; k++) {
            CHECK.due("told " + k, told[k], x.termAt(0, k, 0));
            CHECK.due("shown " + k, 15, x.termAt(0, k, 1));
        }
        x.part(0, 5, 0);
        CHECK.due("told in the new part", 0, x.termAt(1, 0, 0));
        x.uncorrect(0);
        CHECK.due("shown as told", 0, x.termAt(1, 0, 1));
        x.correct(15, 0);
        CHECK.due("shown by what is now", 0, x.termAt(1, 1, 1));
        CHECK.due("told as ever", 15, x.termAt(1, 1, 0));
    }

    /** "INVALID_ARGUMENT if there is no such turn" */
    private static void aTermAtAPlaceThatThereIs() {
        CHECK.due("the first place", 3, States.some().termAt(0, 0, 0));
        CHECK.due("the last place", 5, States.some().termAt(3, 0, 0));
        CHECK.outside("termAt's place", 0, 3, States::some, (x, place) -> x.termAt(place, 0, 0));
        CHECK.outside("termAt's place of 20", 0, 19, States::full, (x, place) -> x.termAt(place, 0, 1));
        CHECK.refused("no turn", Check.INVALID, States::empty, x -> x.termAt(0, 0, 0));
        CHECK.refused("no turn and no term", Check.INVALID, States::some, x -> x.termAt(4, 8, 0));
    }

    /** "index is below 0"; "NOT_FOUND if it has not so many terms" */
    private static void aTermAtAnIndexThatThereIs() {
        LectureTurns full = States.full();
        CHECK.due("the first of 8", 0, full.termAt(0, 0, 0));
        CHECK.due("the last of 8", 7, full.termAt(0, 7, 0));
        for (int index : new int[] {8, 9, 16, 32, 256, Integer.MAX_VALUE}) {
            for (int place : new int[] {0, 18, 19}) {
                CHECK.due("index " + index + " of 8", Check.NOT_FOUND, full.termAt(place, index, 0));
                CHECK.due("index " + index + " of 8, shown", Check.NOT_FOUND, full.termAt(place, index, 1));
            }
        }
        LectureTurns some = States.some();
        CHECK.due("the last of 2", 4, some.termAt(0, 1, 0));
        CHECK.due("behind the last of 2", Check.NOT_FOUND, some.termAt(0, 2, 0));
        CHECK.due("the first of none", Check.NOT_FOUND, some.termAt(2, 0, 1));
        for (int index : new int[] {-1, -8, -256, Integer.MIN_VALUE}) {
            CHECK.refused("index " + index, Check.INVALID, States::some, x -> x.termAt(1, index, 0));
            CHECK.refused("index " + index + " of none", Check.INVALID, States::some, x -> x.termAt(2, index, 0));
        }
    }

    /** "what: 0: as it was told; 1: as it is shown"; INVALID_ARGUMENT rather than NOT_FOUND. */
    private static void aTermToldOrShown() {
        CHECK.due("told", 3, States.some().termAt(0, 0, 0));
        CHECK.due("shown", 6, States.some().termAt(0, 0, 1));
        CHECK.outside("termAt's what", 0, 1, States::some, (x, what) -> x.termAt(0, 0, what));
        CHECK.outside("termAt's what of no term", 0, 1, States::some, (x, what) -> x.termAt(2, 0, what));
    }

    /** "term: 0 to 15", of termOf. */
    private static void somethingOfATermFrom0To15() {
        for (int i = 0; i <= 6; i++) {
            int what = i;
            CHECK.outside("termOf's term for " + what, 0, 15, States::some, (x, term) -> x.termOf(term, what));
        }
        LectureTurns x = chainOfAll();
        CHECK.due("0 is corrected to", 1, x.termOf(0, 0));
        CHECK.due("14 is corrected to", 15, x.termOf(14, 0));
        CHECK.due("15 is not", Check.NOT_FOUND, x.termOf(15, 0));
    }

    /** "what: 0 ... 6", of termOf. */
    private static void somethingOfATermThatThereIs() {
        CHECK.due("what 0", 4, States.some().termOf(3, 0));
        CHECK.due("what 6", Check.set(3, 4, 6), States.some().termOf(6, 6));
        CHECK.outside("termOf's what", 0, 6, States::some, (x, what) -> x.termOf(3, what));
        CHECK.outside("termOf's what of one that is not corrected", 0, 6, States::empty,
                (x, what) -> x.termOf(0, what));
    }

    /** "NOT_FOUND for 0 if it is not corrected"; "a term that is not corrected is shown as itself" */
    private static void aTermThatIsNotCorrected() {
        LectureTurns x = new LectureTurns();
        LectureTurns full = States.full();
        for (int term = 0; term < 16; term++) {
            CHECK.due("corrected to: " + term, Check.NOT_FOUND, x.termOf(term, 0));
            CHECK.due("shown as: " + term, term, x.termOf(term, 1));
            CHECK.due("chain: " + term, 0, x.termOf(term, 2));
            CHECK.due("shown as it: " + term, Check.set(term), x.termOf(term, 6));
            CHECK.due("full, chain: " + term, 15 - term, full.termOf(term, 2));
        }
        full.uncorrect(0);
        CHECK.due("taken back", Check.NOT_FOUND, full.termOf(0, 0));
        CHECK.due("shown as itself", 0, full.termOf(0, 1));
        x.correct(5, 0);
        CHECK.due("corrected to the lowest term", 0, x.termOf(5, 0));
    }

    /** The empty sets and no places: a term that is told, but shown as another one. */
    private static void aTermThatNoTurnShows() {
        LectureTurns x = States.some();
        for (int term : new int[] {0, 3, 4, 15}) {
            CHECK.due("places of " + term, 0, x.termOf(term, 3));
            CHECK.due("turns of " + term, 0, x.termOf(term, 4));
            CHECK.due("speakers of " + term, 0, x.termOf(term, 5));
        }
        CHECK.due("terms that are shown as 3", 0, x.termOf(3, 6));
        CHECK.due("terms that are shown as 15", Check.set(15), x.termOf(15, 6));
    }

    /** The full sets: 20 turns, 6 speakers, 16 terms. */
    private static void aTermThatAllTurnsShow() {
        LectureTurns x = States.full();
        CHECK.due("places of 15", 160, x.termOf(15, 3));
        CHECK.due("turns of 15", 0xFFFFF, x.termOf(15, 4));
        CHECK.due("speakers of 15", 0x3F, x.termOf(15, 5));
        CHECK.due("terms that are shown as 15", 0xFFFF, x.termOf(15, 6));
        for (int term = 0; term < 15; term++) {
            CHECK.due("places of " + term, 0, x.termOf(term, 3));
            CHECK.due("turns of " + term, 0, x.termOf(term, 4));
            CHECK.due("speakers of " + term, 0, x.termOf(term, 5));
            CHECK.due("terms that are shown as " + term, 0, x.termOf(term, 6));
        }
    }

    /** "5: the speakers whose turns show it, as a set": turns without a speaker add none. */
    private static void aTermOfTurnsWithoutASpeaker() {
        LectureTurns x = States.some();
        CHECK.due("turn 3 alone shows 5", Check.set(3), x.termOf(5, 4));
        CHECK.due("it has no speaker", 0, x.termOf(5, 5));
        x.say(0, 5);
        CHECK.due("a turn of the lowest speaker, too", Check.set(0), x.termOf(5, 5));
        x.say(1, 5);
        CHECK.due("of both", Check.set(0, 1), x.termOf(5, 5));
    }

    private static LectureTurns terms(int[]... turns) {
        LectureTurns x = new LectureTurns();
        for (int i = 0; i < turns.length; i++) {
            x.turn(i, i + 1, 100);
            for (int term : turns[i]) {
                x.say(i, term);
            }
        }
        return x;
    }

    private static void dueTogether(String name, LectureTurns x, int lower, int higher, int number) {
        CHECK.due(name + ": lower", lower, x.together(0));
        CHECK.due(name + ": higher", higher, x.together(1));
        CHECK.due(name + ": number", number, x.together(2));
    }

    /** "what: 0 ... 2"; INVALID_ARGUMENT rather than NOT_FOUND. */
    private static void togetherTellsWhatThereIs() {
        dueTogether("some", States.after(States::some, x -> x.say(1, 5)).get(), 5, 6, 1);
        CHECK.outside("together's what", 0, 2, States::full, LectureTurns::together);
        CHECK.outside("together's what of none", 0, 2, States::empty, LectureTurns::together);
    }

    /** "NOT_FOUND if none are" */
    private static void togetherWithoutAny() {
        for (int i = 0; i <= 2; i++) {
            int what = i;
            CHECK.refused("no turns", Check.NOT_FOUND, States::empty, x -> x.together(what));
            CHECK.refused("no terms", Check.NOT_FOUND, States.turns(20), x -> x.together(what));
            CHECK.refused("all shown as one", Check.NOT_FOUND, States::full, x -> x.together(what));
            CHECK.refused("one in each turn", Check.NOT_FOUND, () -> terms(new int[] {1}, new int[] {2}),
                    x -> x.together(what));
            CHECK.refused("one again and again", Check.NOT_FOUND, () -> terms(new int[] {7, 7, 7, 7, 7, 7, 7, 7}),
                    x -> x.together(what));
            CHECK.refused("two that are shown as one", Check.NOT_FOUND, States::some, x -> x.together(what));
        }
    }

    /** "in how many turns": 1 and 20; a turn counts once, "at any places". */
    private static void togetherInTheFewestAndTheMostTurns() {
        dueTogether("one turn", terms(new int[] {9, 3}), 3, 9, 1);
        dueTogether("again and again in one turn", terms(new int[] {9, 3, 9, 3, 9, 3, 9, 3}), 3, 9, 1);
        int[] farApart = {9, 3, 3, 3, 3, 3, 3, 5};
        dueTogether("the first and the last place", terms(farApart, new int[] {5, 9}), 5, 9, 2);
        int[][] all = new int[20][];
        for (int i = 0; i < 20; i++) {
            all[i] = i % 2 == 0 ? new int[] {14, 13} : new int[] {13, i % 13, 14};
        }
        dueTogether("twenty turns", terms(all), 13, 14, 20);
    }

    /** The lowest two terms, the highest two, and the two that are farthest apart. */
    private static void togetherTheLowestAndTheHighestTerms() {
        dueTogether("0 and 1", terms(new int[] {1, 0}), 0, 1, 1);
        dueTogether("14 and 15", terms(new int[] {15, 14}), 14, 15, 1);
        dueTogether("0 and 15", terms(new int[] {15, 0}), 0, 15, 1);
        LectureTurns x = terms(new int[] {2, 3}, new int[] {2, 4}, new int[] {14, 15}, new int[] {15, 14});
        dueTogether("more often beats lower", x, 14, 15, 2);
        x.correct(2, 15);
        x.correct(3, 14);
        x.correct(4, 14);
        dueTogether("as they are shown", x, 14, 15, 4);
    }

    /** "of several the lowest lower term, of these the lowest higher one" */
    private static void togetherOfSeveral() {
        dueTogether("lowest lower one", terms(new int[] {2, 3}, new int[] {1, 15}), 1, 15, 1);
        dueTogether("lowest higher one", terms(new int[] {1, 15}, new int[] {14, 1}), 1, 14, 1);
        dueTogether("all terms of a turn", terms(new int[] {15, 14, 13, 12, 11, 10, 9, 8}), 8, 9, 1);
        dueTogether("as often in other turns", terms(new int[] {5, 6}, new int[] {5, 6}, new int[] {4, 15},
                new int[] {4, 15}), 4, 15, 2);
    }
}

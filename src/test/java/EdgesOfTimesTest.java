/** The boundary cases that the document names for times and numbers: promises 12, 16, 21 and 23. */
public final class EdgesOfTimesTest {
    private static final Check CHECK = new Check();

    public static void main(String[] args) {
        somethingOfATurnThatThereIs();
        somethingThatATurnHas();
        aTurnWithoutASpeaker();
        howManyTermsATurnHas();
        turnsOverlapInASecondAtLeast();
        turnsThatOverlapFromNoneToAll();
        secondsWithNoOtherTurn();
        secondsAloneFromNoneToAll();
        aSecondFrom0To1999();
        turnsOrSpeakersOfASecond();
        turnsThatHaveBegunAndEndLater();
        speakersOfASecond();
        nobodyAndEverybodySpeaks();
        silenceTellsWhatThereIs();
        silenceIfThereIsNone();
        silenceBetweenTheFirstBeginAndTheLastEnd();
        silenceOfOneSecondAndTheLongest();
        silenceOfSeveral();
        silenceBesideALongTurn();
        numbersThatThereAre();
        numbersOfAnEmptyTranscript();
        numbersOfAFullTranscript();
        turnsSpeakersAndTermsAreCounted();
        pairsThatOverlap();
        secondsInWhichTurnsGoOn();
        secondsOfTurnsInTurns();
        CHECK.end();
    }

    private static LectureTurns times(int... times) {
        LectureTurns x = new LectureTurns();
        for (int i = 0; i + 1 < times.length; i += 2) {
            x.turn(times[i], times[i + 1], 100);
        }
        return x;
    }

    /** "place: place of the turn" */
    private static void somethingOfATurnThatThereIs() {
        CHECK.due("the first place", 10, States.some().turnOf(0, 0));
        CHECK.due("the last place", 70, States.some().turnOf(3, 0));
        CHECK.due("the last place of 20", 1900, States.full().turnOf(19, 0));
        CHECK.outside("turnOf's place of 20", 0, 19, States::full, (x, place) -> x.turnOf(place, 0));
        for (int i = 0; i <= 7; i++) {
            int what = i;
            CHECK.outside("turnOf's place for " + what, 0, 3, States::some, (x, place) -> x.turnOf(place, what));
            CHECK.refused("no turn", Check.INVALID, States::empty, x -> x.turnOf(0, what));
        }
    }

    /** "what: 0 ... 7"; INVALID_ARGUMENT rather than NOT_FOUND. */
    private static void somethingThatATurnHas() {
        int[] due = {10, 50, 110, 0, 2, Check.set(1, 2), 0, 25};
        LectureTurns x = States.some();
        for (int what = 0; what <= 7; what++) {
            CHECK.due("what " + what, due[what], x.turnOf(0, what));
        }
        CHECK.outside("turnOf's what", 0, 7, States::some, (y, what) -> y.turnOf(0, what));
        CHECK.outside("turnOf's what without a speaker", 0, 7, States::some, (y, what) -> y.turnOf(3, what));
    }

    /** "NOT_FOUND for 3 if it has none" */
    private static void aTurnWithoutASpeaker() {
        CHECK.refused("it has none", Check.NOT_FOUND, States::some, x -> x.turnOf(3, 3));
        LectureTurns x = States.some();
        CHECK.due("the lowest speaker", 0, x.turnOf(2, 3));
        x.give(3, 1);
        CHECK.due("it is told to be theirs", 1, x.turnOf(3, 3));
        LectureTurns full = States.full();
        for (int i = 0; i < 20; i++) {
            CHECK.due("speaker of " + i, i % 6, full.turnOf(i, 3));
        }
    }

    /** "4: how many terms it has": 0 to 8. */
    private static void howManyTermsATurnHas() {
        LectureTurns x = times(0, 1);
        for (int i = 0; i < 8; i++) {
            CHECK.due("terms", i, x.turnOf(0, 4));
            x.say(0, i);
        }
        CHECK.due("the most terms", 8, x.turnOf(0, 4));
        x.say(0, 8);
        CHECK.due("no more", 8, x.turnOf(0, 4));
    }

    /** "if each begins ahead of the end of the other" */
    private static void turnsOverlapInASecondAtLeast() {
        int[][] due = {{10, 20, 20, 30, 0}, {10, 20, 19, 30, 1}, {10, 20, 10, 20, 1}, {10, 20, 10, 11, 1},
            {10, 20, 19, 20, 1}, {10, 20, 12, 13, 1}, {10, 20, 21, 30, 0}, {0, 1, 1, 1999, 0}, {0, 1999, 1998, 1999, 1},
            {0, 1998, 1998, 1999, 0}};
        for (int[] d : due) {
            String name = d[0] + "-" + d[1] + " and " + d[2] + "-" + d[3];
            LectureTurns x = times(d[0], d[1], d[2], d[3]);
            CHECK.due(name + ": of the first", d[4] * Check.set(1), x.turnOf(0, 5));
            CHECK.due(name + ": of the second", d[4] * Check.set(0), x.turnOf(1, 5));
            CHECK.due(name + ": pairs", d[4], x.count(5));
        }
    }

    /** The empty set, and all 19 other ones; a turn is not one that overlaps with itself. */
    private static void turnsThatOverlapFromNoneToAll() {
        CHECK.due("the only turn", 0, times(0, 1999).turnOf(0, 5));
        LectureTurns x = States.turns(20).get();
        LectureTurns apart = new LectureTurns();
        for (int i = 0; i < 20; i++) {
            apart.turn(10 * i, 10 * i + 10, 100);
        }
        for (int i = 0; i < 20; i++) {
            CHECK.due("all overlap with " + i, 0xFFFFF & ~Check.set(i), x.turnOf(i, 5));
            CHECK.due("none overlaps with " + i, 0, apart.turnOf(i, 5));
        }
    }

    /** "7: for how many seconds no other turn goes on in it" */
    private static void secondsWithNoOtherTurn() {
        CHECK.due("the next one begins at its end", 10, times(10, 20, 20, 30).turnOf(0, 7));
        CHECK.due("the next one begins one second ahead of it", 9, times(10, 20, 19, 30).turnOf(0, 7));
        CHECK.due("the one before ends at its begin", 10, times(5, 10, 10, 20).turnOf(1, 7));
        CHECK.due("the one before ends one second behind it", 9, times(5, 11, 10, 20).turnOf(1, 7));
        CHECK.due("one inside", 9, times(10, 20, 14, 15).turnOf(0, 7));
        CHECK.due("two inside, one in the other", 5, times(10, 20, 12, 17, 13, 14).turnOf(0, 7));
        CHECK.due("two inside, one behind the other", 6, times(10, 20, 12, 14, 14, 16).turnOf(0, 7));
        CHECK.due("others far away", 10, times(0, 5, 10, 20, 30, 40).turnOf(1, 7));
    }

    /** The fewest and the most seconds alone: 0, 1 and 1999. */
    private static void secondsAloneFromNoneToAll() {
        CHECK.due("all times", 1999, times(0, 1999).turnOf(0, 7));
        CHECK.due("all but the first and the last", 1997, times(0, 1999, 0, 1, 1998, 1999).turnOf(0, 7));
        CHECK.due("inside another one", 0, times(0, 1999, 1000, 1001).turnOf(1, 7));
        CHECK.due("one of the same times", 0, times(3, 4, 3, 4).turnOf(0, 7));
        CHECK.due("one second", 1, times(3, 4, 4, 5).turnOf(0, 7));
        LectureTurns x = States.turns(20).get();
        for (int i = 0; i < 20; i++) {
            CHECK.due("one of twenty", 0, x.turnOf(i, 7));
        }
    }

    /** "time: 0 to 1999" */
    private static void aSecondFrom0To1999() {
        LectureTurns x = times(0, 1999);
        CHECK.due("0", Check.set(0), x.during(0, 0));
        CHECK.due("1998", Check.set(0), x.during(1998, 0));
        CHECK.due("1999, in which no turn can go on", 0, x.during(1999, 0));
        for (int i = 0; i <= 1; i++) {
            int what = i;
            CHECK.outside("during's time", 0, 1999, States::full, (y, time) -> y.during(time, what));
            CHECK.outside("during's time of none", 0, 1999, States::empty, (y, time) -> y.during(time, what));
        }
    }

    /** "what: 0 ... 1", of during. */
    private static void turnsOrSpeakersOfASecond() {
        CHECK.due("turns", Check.set(0, 1), States.some().during(35, 0));
        CHECK.due("speakers", Check.set(0, 1), States.some().during(35, 1));
        CHECK.outside("during's what", 0, 1, States::some, (x, what) -> x.during(35, what));
        CHECK.outside("during's what of none", 0, 1, States::empty, (x, what) -> x.during(0, what));
    }

    /** "(that have begun, and whose end is later)" */
    private static void turnsThatHaveBegunAndEndLater() {
        LectureTurns x = times(10, 20, 20, 21);
        int[][] due = {{0, 0}, {9, 0}, {10, Check.set(0)}, {19, Check.set(0)}, {20, Check.set(1)}, {21, 0}, {1999, 0}};
        for (int[] d : due) {
            CHECK.due("turns in " + d[0], d[1], x.during(d[0], 0));
        }
    }

    /** "1: the speakers of these": of the same times as the turns; those without a speaker add none. */
    private static void speakersOfASecond() {
        LectureTurns x = States.some();
        int[][] due = {{9, 0}, {10, Check.set(0)}, {29, Check.set(0)}, {30, Check.set(0, 1)}, {39, Check.set(0, 1)},
            {40, Check.set(0)}, {59, Check.set(0)}, {60, 0}, {70, 0}, {79, 0}};
        for (int[] d : due) {
            CHECK.due("speakers in " + d[0], d[1], x.during(d[0], 1));
        }
        CHECK.due("the turn without a speaker goes on", Check.set(3), x.during(70, 0));
        CHECK.due("two turns of one speaker", Check.set(0), x.during(45, 1));
    }

    /** The empty sets and the full ones: 20 turns of 6 speakers. */
    private static void nobodyAndEverybodySpeaks() {
        LectureTurns x = new LectureTurns();
        CHECK.due("no turn", 0, x.during(0, 0));
        CHECK.due("no speaker", 0, x.during(0, 1));
        for (int k = 0; k < 6; k++) {
            x.speaker(50 + 90 * k);
        }
        for (int i = 0; i < 20; i++) {
            x.turn(1000, 1001, 50 + 90 * (i % 6));
        }
        CHECK.due("all turns", 0xFFFFF, x.during(1000, 0));
        CHECK.due("all speakers", 0x3F, x.during(1000, 1));
        CHECK.due("none a second earlier", 0, x.during(999, 0));
        CHECK.due("none a second later", 0, x.during(1001, 1));
    }

    /** "what: 0 ... 1", of silence; INVALID_ARGUMENT rather than NOT_FOUND. */
    private static void silenceTellsWhatThereIs() {
        CHECK.due("its first second", 60, States.some().silence(0));
        CHECK.due("seconds", 10, States.some().silence(1));
        CHECK.outside("silence's what", 0, 1, States::some, LectureTurns::silence);
        CHECK.outside("silence's what of none", 0, 1, States::empty, LectureTurns::silence);
        CHECK.outside("silence's what without silence", 0, 1, States::full, LectureTurns::silence);
    }

    /** "NOT_FOUND if there is none" */
    private static void silenceIfThereIsNone() {
        for (int i = 0; i <= 1; i++) {
            int what = i;
            CHECK.refused("no turns", Check.NOT_FOUND, States::empty, x -> x.silence(what));
            CHECK.refused("one turn", Check.NOT_FOUND, () -> times(500, 600), x -> x.silence(what));
            CHECK.refused("all at once", Check.NOT_FOUND, States.turns(20), x -> x.silence(what));
            CHECK.refused("one behind another", Check.NOT_FOUND, () -> times(5, 6, 6, 7, 7, 9), x -> x.silence(what));
            CHECK.refused("no gap", Check.NOT_FOUND, States::full, x -> x.silence(what));
        }
    }

    /** "between the first begin and the last end": not ahead of the one, nor behind the other. */
    private static void silenceBetweenTheFirstBeginAndTheLastEnd() {
        LectureTurns x = times(1000, 1010, 1012, 1020);
        CHECK.due("first second", 1010, x.silence(0));
        CHECK.due("seconds", 2, x.silence(1));
        x.remove(1);
        CHECK.due("one is left", Check.NOT_FOUND, x.silence(1));
        LectureTurns late = times(1997, 1998);
        CHECK.due("the first begin is late", Check.NOT_FOUND, late.silence(0));
        LectureTurns inside = times(10, 100, 20, 30, 40, 50);
        CHECK.due("the last begin is not the last end", Check.NOT_FOUND, inside.silence(1));
    }

    /** The shortest silence and the longest one: 1 and 1997 seconds. */
    private static void silenceOfOneSecondAndTheLongest() {
        CHECK.due("one second: first", 1, times(0, 1, 2, 3).silence(0));
        CHECK.due("one second", 1, times(0, 1, 2, 3).silence(1));
        CHECK.due("the longest: first", 1, times(0, 1, 1998, 1999).silence(0));
        CHECK.due("the longest", 1997, times(0, 1, 1998, 1999).silence(1));
        CHECK.due("the last second that can be silent", 1997, times(0, 1997, 1998, 1999).silence(0));
        CHECK.due("one second", 1, times(0, 1997, 1998, 1999).silence(1));
    }

    /** "its first second, of several the earliest" */
    private static void silenceOfSeveral() {
        CHECK.due("both as long", 10, times(0, 10, 15, 20, 25, 30).silence(0));
        CHECK.due("the later one is longer", 20, times(0, 10, 15, 20, 26, 30).silence(0));
        CHECK.due("seconds", 6, times(0, 10, 15, 20, 26, 30).silence(1));
        CHECK.due("the earlier one is longer", 10, times(0, 10, 16, 20, 25, 30).silence(0));
        CHECK.due("the one between is longer", 3, times(0, 1, 2, 3, 5, 6, 7, 8).silence(0));
    }

    /** "in which no turn goes on": a turn goes on behind those that begin later. */
    private static void silenceBesideALongTurn() {
        CHECK.due("first second", 50, times(0, 50, 10, 20, 55, 60).silence(0));
        CHECK.due("seconds", 5, times(0, 50, 10, 20, 55, 60).silence(1));
        CHECK.due("filled up", Check.NOT_FOUND, times(0, 50, 10, 20, 50, 60).silence(1));
        CHECK.due("filled but for a second", 1, times(0, 50, 10, 20, 51, 60).silence(1));
    }

    /** "what: 0 ... 10 ... 20": not the numbers between, below or above. */
    private static void numbersThatThereAre() {
        CHECK.outside("count's what of full", 0, 10, States::full, LectureTurns::count);
        for (int i = 11; i <= 19; i++) {
            int what = i;
            CHECK.refused("count " + what, Check.INVALID, States::some, x -> x.count(what));
        }
        for (int what : new int[] {-1, 21, 22, 30, 52, 276, -20, -10, Integer.MIN_VALUE, Integer.MAX_VALUE}) {
            CHECK.refused("count " + what, Check.INVALID, States::some, x -> x.count(what));
        }
        CHECK.due("the setting", 30, States.some().count(20));
    }

    private static void numbersOfAnEmptyTranscript() {
        LectureTurns x = new LectureTurns();
        for (int what = 0; what <= 10; what++) {
            CHECK.due("count " + what, 0, x.count(what));
        }
        CHECK.due("count 20", 30, x.count(20));
    }

    private static void numbersOfAFullTranscript() {
        LectureTurns x = States.full();
        x.set(0, 200);
        int[] due = {20, 6, 160, 15, 0, 19, 1999, 19 * 50, 4, 60, 0x3F};
        for (int what = 0; what <= 10; what++) {
            CHECK.due("count " + what, due[what], x.count(what));
        }
        CHECK.due("count 20", 200, x.count(20));
    }

    /** Each number goes up and down with what it counts, and with nothing else. */
    private static void turnsSpeakersAndTermsAreCounted() {
        LectureTurns x = States.some();
        int[] due = {4, 2, 4, 2, 1, 2, 60, 15, 4, 16, Check.set(0, 1)};
        for (int what = 0; what <= 10; what++) {
            CHECK.due("some: count " + what, due[what], x.count(what));
        }
        x.remove(0);
        x.join(0, 1);
        x.uncorrect(3);
        x.clearText();
        x.undo();
        int[] then = {3, 1, 2, 2, 1, 0, 35, 0, 3, 0, Check.set(1)};
        for (int what = 0; what <= 10; what++) {
            CHECK.due("less: count " + what, then[what], x.count(what));
        }
    }

    /** "5: pairs of turns that overlap": 0 to 190, each pair once. */
    private static void pairsThatOverlap() {
        CHECK.due("one turn", 0, times(0, 1999).count(5));
        CHECK.due("two that touch", 0, times(0, 10, 10, 20).count(5));
        CHECK.due("two that overlap", 1, times(0, 11, 10, 20).count(5));
        CHECK.due("three that overlap", 3, times(0, 11, 10, 20, 10, 11).count(5));
        CHECK.due("twenty", 190, States.turns(20).get().count(5));
    }

    /** "6: seconds in which at least one turn goes on; 7: ... more than one": 0 to 1999. */
    private static void secondsInWhichTurnsGoOn() {
        int[][] due = {{0, 1, 0, 1, 1, 1}, {0, 1, 1, 2, 2, 0}, {0, 2, 1, 3, 3, 1}, {0, 1999, 0, 1999, 1999, 1999},
            {0, 1999, 1998, 1999, 1999, 1}, {0, 1, 1998, 1999, 2, 0}, {10, 20, 19, 30, 20, 1}, {10, 20, 20, 30, 20, 0},
            {10, 20, 21, 30, 19, 0}};
        for (int[] d : due) {
            String name = d[0] + "-" + d[1] + " and " + d[2] + "-" + d[3];
            LectureTurns x = times(d[0], d[1], d[2], d[3]);
            CHECK.due(name + ": at least one", d[4], x.count(6));
            CHECK.due(name + ": more than one", d[5], x.count(7));
        }
        CHECK.due("one turn: more than one", 0, times(0, 1999).count(7));
        CHECK.due("one turn: at least one", 1999, times(0, 1999).count(6));
    }

    /** A second counts once, however many turns go on in it. */
    private static void secondsOfTurnsInTurns() {
        LectureTurns x = times(0, 100, 10, 90, 20, 30, 25, 35, 40, 50, 95, 110, 200, 210);
        CHECK.due("at least one", 120, x.count(6));
        CHECK.due("more than one", 80 + 5, x.count(7));
        CHECK.due("twenty at once: at least one", 2, States.turns(20).get().count(6));
        CHECK.due("twenty at once: more than one", 2, States.turns(20).get().count(7));
    }
}

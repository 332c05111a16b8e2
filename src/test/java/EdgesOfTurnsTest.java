/** The boundary cases that the document names for turns: "Turns" and promises 1 to 5. */
public final class EdgesOfTurnsTest {
    private static final Check CHECK = new Check();

    public static void main(String[] args) {
        aNewObjectIsEmpty();
        anObjectOfItsOwn();
        aBeginFrom0To1998();
        anEndAboveTheBegin();
        anEndOf1999AtMost();
        aPitchOfATurnFrom50To500();
        twentyTurns();
        placesFrom0InTheOrderOfTheBegins();
        theSameBeginInTheOrderInWhichTheyCame();
        aTurnWithoutTerms();
        aTurnGetsASpeakerOrNone();
        sayAtAPlaceThatThereIs();
        sayATermFrom0To15();
        eightTerms();
        partATurnThatThereIs();
        partInsideTheTurn();
        partAtAnIndexOfItsTerms();
        partWhenThereAreTwenty();
        partsKeepWhatTheyHad();
        aPartCountsAsTheLatestOneThatCame();
        removeATurnThatThereIs();
        removeTheLastOneThatThereIs();
        removeMakesRoom();
        CHECK.end();
    }

    /** "Creates an empty transcript." */
    private static void aNewObjectIsEmpty() {
        LectureTurns x = new LectureTurns();
        for (int what = 0; what <= 10; what++) {
            CHECK.due("new: count " + what, 0, x.count(what));
        }
        CHECK.due("new: setting", 30, x.count(20));
        for (int k = 0; k < 16; k++) {
            CHECK.due("new: chain of term " + k, 0, x.termOf(k, 2));
            CHECK.due("new: places of term " + k, 0, x.termOf(k, 3));
            CHECK.due("new: turns of term " + k, 0, x.termOf(k, 4));
            CHECK.due("new: speakers of term " + k, 0, x.termOf(k, 5));
            CHECK.due("new: terms shown as " + k, Check.set(k), x.termOf(k, 6));
        }
        for (int k = 0; k < 6; k++) {
            CHECK.due("new: speaker " + k, Check.INVALID, x.speakerOf(k, 0));
        }
        CHECK.due("new: turn", Check.INVALID, x.turnOf(0, 0));
        CHECK.due("new: term", Check.INVALID, x.termAt(0, 0, 0));
        CHECK.due("new: turns in 0", 0, x.during(0, 0));
        CHECK.due("new: interrupts", Check.INVALID, x.interrupts(0, 1));
        CHECK.due("new: nearest", Check.NOT_FOUND, x.nearest(100));
        CHECK.due("new: would", 0, x.would(0, 15));
        CHECK.due("new: together", Check.NOT_FOUND, x.together(2));
        CHECK.due("new: silence", Check.NOT_FOUND, x.silence(1));
        CHECK.due("new: doubtful", Check.NOT_FOUND, x.doubtful(1));
        CHECK.due("new: fault", Check.NOT_FOUND, x.fault(0));
        CHECK.due("new: clearText", 0, x.clearText());
        CHECK.due("new: undo", Check.NOT_POSSIBLE, x.undo());
        CHECK.due("new: play", 0, x.play());
    }

    /** "Creates an empty transcript", whatever others there are; and none of them is changed. */
    private static void anObjectOfItsOwn() {
        LectureTurns full = States.full();
        String difference = Same.difference(LectureTurns::new, LectureTurns::new);
        CHECK.holds("two new ones are the same, but " + difference, difference.isEmpty());
        LectureTurns other = new LectureTurns();
        CHECK.due("the other one: turns", 0, other.count(0));
        CHECK.due("the other one: states", 0, other.count(8));
        CHECK.due("the other one: text", 0, other.count(9));
        other.turn(0, 1, 60);
        other.speaker(77);
        other.set(0, 3);
        other.correct(15, 1);
        other.clearText();
        CHECK.due("the full one: turns", 20, full.count(0));
        CHECK.due("the full one: speakers", 6, full.count(1));
        CHECK.due("the full one: corrections", 15, full.count(3));
        CHECK.due("the full one: text", 60, full.count(9));
        CHECK.due("the full one: setting", 30, full.count(20));
    }

    /** "begin: 0 to 1998" */
    private static void aBeginFrom0To1998() {
        LectureTurns x = new LectureTurns();
        CHECK.due("begin 0", 0, x.turn(0, 1999, 100));
        CHECK.due("begin 1998", 1, x.turn(1998, 1999, 100));
        CHECK.due("it is 0", 0, x.turnOf(0, 0));
        CHECK.due("it is 1998", 1998, x.turnOf(1, 0));
        CHECK.outside("turn's begin", 0, 1998, States::some, (y, begin) -> y.turn(begin, 1999, 100));
        CHECK.refused("begin 1999", Check.INVALID, States::empty, y -> y.turn(1999, 2000, 100));
    }

    /** "end: above begin" */
    private static void anEndAboveTheBegin() {
        for (int begin : new int[] {0, 1, 1000, 1998}) {
            CHECK.due("one second from " + begin, 0, new LectureTurns().turn(begin, begin + 1, 100));
            CHECK.refused("no second from " + begin, Check.INVALID, States::some, x -> x.turn(begin, begin, 100));
            CHECK.refused("below " + begin, Check.INVALID, States::some, x -> x.turn(begin, begin - 1, 100));
        }
    }

    /** "end: ... 1999 at most" */
    private static void anEndOf1999AtMost() {
        LectureTurns x = new LectureTurns();
        CHECK.due("end 1998", 0, x.turn(5, 1998, 100));
        CHECK.due("end 1999", 1, x.turn(5, 1999, 100));
        CHECK.due("it is 1999", 1999, x.turnOf(1, 1));
        CHECK.outside("turn's end", 6, 1999, States::some, (y, end) -> y.turn(5, end, 100));
    }

    /** "pitch: 50 to 500" */
    private static void aPitchOfATurnFrom50To500() {
        LectureTurns x = new LectureTurns();
        CHECK.due("pitch 50", 0, x.turn(0, 1, 50));
        CHECK.due("pitch 500", 1, x.turn(1, 2, 500));
        CHECK.due("it is 50", 50, x.turnOf(0, 2));
        CHECK.due("it is 500", 500, x.turnOf(1, 2));
        CHECK.outside("turn's pitch", 50, 500, States::some, (y, pitch) -> y.turn(0, 1, pitch));
        CHECK.outside("turn's pitch of none", 50, 500, States::empty, (y, pitch) -> y.turn(0, 1, pitch));
    }

    /** "There are at most 20 turns"; "LIMIT_REACHED if there are 20", and INVALID_ARGUMENT rather. */
    private static void twentyTurns() {
        LectureTurns x = new LectureTurns();
        for (int i = 0; i < 20; i++) {
            CHECK.due("turn " + i, i, x.turn(i, 1999, 100));
            CHECK.due("turns", i + 1, x.count(0));
        }
        CHECK.due("the twentieth has its place", 19, x.turnOf(19, 0));
        CHECK.refused("turn 20", Check.LIMIT, States.turns(20), y -> y.turn(7, 9, 100));
        CHECK.refused("turn 20, ahead", Check.LIMIT, States.turns(20), y -> y.turn(0, 9, 100));
        CHECK.refused("turn 20, behind", Check.LIMIT, States::full, y -> y.turn(1998, 1999, 100));
        CHECK.refused("turn 20, wrong begin", Check.INVALID, States::full, y -> y.turn(-1, 9, 100));
        CHECK.refused("turn 20, wrong end", Check.INVALID, States::full, y -> y.turn(7, 7, 100));
        CHECK.refused("turn 20, late end", Check.INVALID, States::full, y -> y.turn(7, 2000, 100));
        CHECK.refused("turn 20, low pitch", Check.INVALID, States::full, y -> y.turn(7, 9, 49));
        CHECK.refused("turn 20, high pitch", Check.INVALID, States::full, y -> y.turn(7, 9, 501));
    }

    /** "in the order of their begins ... a turn is told by its place in this order, from 0" */
    private static void placesFrom0InTheOrderOfTheBegins() {
        LectureTurns x = new LectureTurns();
        CHECK.due("the only one", 0, x.turn(1000, 1001, 100));
        CHECK.due("ahead of all", 0, x.turn(999, 1999, 101));
        CHECK.due("behind all", 2, x.turn(1001, 1002, 102));
        CHECK.due("ahead of all by far", 0, x.turn(0, 1, 103));
        CHECK.due("behind all by far", 4, x.turn(1998, 1999, 104));
        int[] pitches = {103, 101, 100, 102, 104};
        for (int i = 0; i < 5; i++) {
            CHECK.due("pitch of place " + i, pitches[i], x.turnOf(i, 2));
        }
    }

    /** "of several with the same begin in the order in which they came", at the first and the last begin, too. */
    private static void theSameBeginInTheOrderInWhichTheyCame() {
        for (int begin : new int[] {0, 500, 1998}) {
            LectureTurns x = new LectureTurns();
            CHECK.due("the first of " + begin, 0, x.turn(begin, 1999, 100));
            CHECK.due("the second of " + begin, 1, x.turn(begin, begin + 1, 50));
            CHECK.due("the third of " + begin, 2, x.turn(begin, 1999, 500));
            CHECK.due("first", 100, x.turnOf(0, 2));
            CHECK.due("second", 50, x.turnOf(1, 2));
            CHECK.due("third", 500, x.turnOf(2, 2));
        }
        LectureTurns full = new LectureTurns();
        for (int i = 0; i < 20; i++) {
            CHECK.due("one of twenty", i, full.turn(7, 9, 69 - i));
        }
        for (int i = 0; i < 20; i++) {
            CHECK.due("pitch of one of twenty", 69 - i, full.turnOf(i, 2));
        }
    }

    /** "Adds a turn, without terms", also where one with terms was. */
    private static void aTurnWithoutTerms() {
        LectureTurns x = States.full();
        x.remove(19);
        CHECK.due("at the place of one with 8 terms", 19, x.turn(1998, 1999, 100));
        CHECK.due("no terms", 0, x.turnOf(19, 4));
        CHECK.due("no first term", Check.NOT_FOUND, x.termAt(19, 0, 0));
        x.remove(0);
        CHECK.due("ahead of ones with 8 terms", 0, x.turn(0, 1, 100));
        CHECK.due("no terms there", 0, x.turnOf(0, 4));
        CHECK.due("8 in the next one", 8, x.turnOf(1, 4));
        CHECK.due("the next one's first term", 1, x.termAt(1, 0, 0));
        CHECK.due("the next one's last term", 8, x.termAt(1, 7, 0));
    }

    /** "When a turn comes, it gets the speaker whose pitch is nearest ... if there is none, it has none." */
    private static void aTurnGetsASpeakerOrNone() {
        LectureTurns x = new LectureTurns();
        x.turn(0, 1, 100);
        CHECK.due("no speakers", Check.NOT_FOUND, x.turnOf(0, 3));
        x.speaker(100);
        CHECK.due("it stays so", Check.NOT_FOUND, x.turnOf(0, 3));
        x.turn(1, 2, 130);
        x.turn(2, 3, 70);
        x.turn(3, 4, 131);
        x.turn(4, 5, 69);
        int[] due = {Check.NOT_FOUND, 0, 0, Check.NOT_FOUND, Check.NOT_FOUND};
        for (int i = 0; i < 5; i++) {
            CHECK.due("speaker of turn " + i, due[i], x.turnOf(i, 3));
        }
        x.set(0, 0);
        x.turn(5, 6, 100);
        x.turn(6, 7, 101);
        x.turn(7, 8, 99);
        CHECK.due("0 away", 0, x.turnOf(5, 3));
        CHECK.due("1 above", Check.NOT_FOUND, x.turnOf(6, 3));
        CHECK.due("1 below", Check.NOT_FOUND, x.turnOf(7, 3));
        x.set(0, 200);
        x.turn(8, 9, 300);
        x.turn(9, 10, 301);
        CHECK.due("200 away", 0, x.turnOf(8, 3));
        CHECK.due("201 away", Check.NOT_FOUND, x.turnOf(9, 3));
    }

    /** "place: place of the turn"; "If there is no turn at a certain place ... this is INVALID_ARGUMENT." */
    private static void sayAtAPlaceThatThereIs() {
        LectureTurns x = States.some();
        CHECK.due("the first place", 3, x.say(0, 0));
        CHECK.due("the last place", 2, x.say(3, 0));
        CHECK.outside("say's place", 0, 3, States::some, (y, place) -> y.say(place, 0));
        CHECK.outside("say's place of 20", 0, 19, States.turns(20), (y, place) -> y.say(place, 0));
        CHECK.refused("no turn at all", Check.INVALID, States::empty, y -> y.say(0, 0));
    }

    /** "term: 0 to 15"; "There are 16 terms, numbered from 0." */
    private static void sayATermFrom0To15() {
        LectureTurns x = States.turns(1).get();
        CHECK.due("term 0", 1, x.say(0, 0));
        CHECK.due("term 15", 2, x.say(0, 15));
        CHECK.due("it is 0", 0, x.termAt(0, 0, 0));
        CHECK.due("it is 15", 15, x.termAt(0, 1, 0));
        CHECK.outside("say's term", 0, 15, States::some, (y, term) -> y.say(0, term));
    }

    /** "0 to 8 terms, one behind another"; "LIMIT_REACHED if it has 8", and INVALID_ARGUMENT rather. */
    private static void eightTerms() {
        LectureTurns x = States.turns(2).get();
        for (int i = 1; i <= 8; i++) {
            CHECK.due("term " + i, i, x.say(0, 16 - 2 * i));
        }
        CHECK.due("the ninth", Check.LIMIT, x.say(0, 3));
        CHECK.due("the first of the next turn", 1, x.say(1, 3));
        for (int i = 1; i <= 8; i++) {
            CHECK.due("told as " + i, 16 - 2 * i, x.termAt(0, i - 1, 0));
        }
        for (int place : new int[] {0, 7, 19}) {
            CHECK.refused("the ninth of " + place, Check.LIMIT, States::full, y -> y.say(place, 3));
            CHECK.refused("the ninth of " + place + ", -1", Check.INVALID, States::full, y -> y.say(place, -1));
            CHECK.refused("the ninth of " + place + ", 16", Check.INVALID, States::full, y -> y.say(place, 16));
        }
        CHECK.refused("at place 20", Check.INVALID, States::full, y -> y.say(20, 3));
    }

    /** "place: place of the turn", of part. */
    private static void partATurnThatThereIs() {
        CHECK.due("the first place", 1, States.some().part(0, 20, 0));
        CHECK.due("the last place", 4, States.some().part(3, 75, 0));
        CHECK.outside("part's place", 0, 3, States::some, (x, place) -> x.part(place, 75, 0));
        CHECK.refused("no turn at all", Check.INVALID, States::empty, x -> x.part(0, 1, 0));
    }

    /** "time: above its begin, below its end" */
    private static void partInsideTheTurn() {
        CHECK.due("one second above its begin", 1, States.some().part(0, 11, 0));
        CHECK.due("one second below its end", 3, States.some().part(0, 49, 0));
        CHECK.outside("part's time", 11, 49, States::some, (x, time) -> x.part(0, time, 0));
        LectureTurns x = new LectureTurns();
        x.turn(1997, 1999, 100);
        CHECK.due("the last second", 1, x.part(0, 1998, 0));
        CHECK.due("its begin", 1998, x.turnOf(1, 0));
        CHECK.due("its end", 1999, x.turnOf(1, 1));
        CHECK.due("the old one's end", 1998, x.turnOf(0, 1));
        for (int time = 6; time <= 9; time++) {
            int at = time;
            CHECK.refused("a turn of one second at " + at, Check.INVALID,
                    States.after(States::empty, y -> y.turn(7, 8, 100)), y -> y.part(0, at, 0));
        }
    }

    /** "index: 0 to the number of its terms: the first term of the new one" */
    private static void partAtAnIndexOfItsTerms() {
        for (int index = 0; index <= 8; index++) {
            LectureTurns x = States.full();
            x.remove(19);
            CHECK.due("part at " + index, 1, x.part(0, 1, index));
            CHECK.due("terms of the old one", index, x.turnOf(0, 4));
            CHECK.due("terms of the new one", 8 - index, x.turnOf(1, 4));
            for (int k = 0; k < 8; k++) {
                CHECK.due("term " + k, k, k < index ? x.termAt(0, k, 0) : x.termAt(1, k - index, 0));
            }
            CHECK.due("behind the old one's last", Check.NOT_FOUND, x.termAt(0, index, 0));
            CHECK.due("behind the new one's last", Check.NOT_FOUND, x.termAt(1, 8 - index, 0));
            CHECK.due("terms of all", 152, x.count(2));
        }
        CHECK.outside("part's index of 8", 0, 8, States.after(States::full, x -> x.remove(19)),
                (x, index) -> x.part(0, 1, index));
        CHECK.outside("part's index of 2", 0, 2, States::some, (x, index) -> x.part(0, 20, index));
        CHECK.outside("part's index of none", 0, 0, States::some, (x, index) -> x.part(2, 50, index));
        CHECK.due("a turn without terms", 3, States.some().part(2, 50, 0));
    }

    /** "LIMIT_REACHED if there are 20", and INVALID_ARGUMENT rather. */
    private static void partWhenThereAreTwenty() {
        LectureTurns x = States.turns(19).get();
        CHECK.due("the twentieth", 19, x.part(0, 8, 0));
        CHECK.due("turns", 20, x.count(0));
        CHECK.due("the twenty-first", Check.LIMIT, x.part(1, 8, 0));
        CHECK.refused("at 20", Check.LIMIT, States.turns(20), y -> y.part(0, 8, 0));
        CHECK.refused("at 20, full", Check.LIMIT, States::full, y -> y.part(19, 1950, 8));
        CHECK.refused("at 20, place 20", Check.INVALID, States::full, y -> y.part(20, 1950, 0));
        CHECK.refused("at 20, place -1", Check.INVALID, States::full, y -> y.part(-1, 1950, 0));
        CHECK.refused("at 20, its begin", Check.INVALID, States::full, y -> y.part(19, 1900, 0));
        CHECK.refused("at 20, its end", Check.INVALID, States::full, y -> y.part(19, 1999, 0));
        CHECK.refused("at 20, index -1", Check.INVALID, States::full, y -> y.part(19, 1950, -1));
        CHECK.refused("at 20, index 9", Check.INVALID, States::full, y -> y.part(19, 1950, 9));
    }

    /** "the new one ... has its end, pitch and speaker", though another speaker is nearer, or it has none. */
    private static void partsKeepWhatTheyHad() {
        LectureTurns x = new LectureTurns();
        x.turn(0, 9, 300);
        x.speaker(100);
        x.turn(10, 19, 120);
        x.speaker(120);
        x.part(1, 15, 0);
        x.part(0, 5, 0);
        CHECK.due("none has none", Check.NOT_FOUND, x.turnOf(1, 3));
        CHECK.due("its pitch", 300, x.turnOf(1, 2));
        CHECK.due("its end", 9, x.turnOf(1, 1));
        CHECK.due("the speaker of before", 0, x.turnOf(3, 3));
        CHECK.due("turns of the nearer one", 0, x.speakerOf(1, 1));
        CHECK.due("the pitch of the speaker stays", 100, x.speakerOf(0, 0));
    }

    /** "it counts as the latest one that came" */
    private static void aPartCountsAsTheLatestOneThatCame() {
        LectureTurns x = new LectureTurns();
        x.turn(0, 9, 100);
        x.turn(4, 9, 200);
        x.turn(5, 9, 300);
        CHECK.due("behind the one with the same begin", 2, x.part(0, 4, 0));
        CHECK.due("ahead of a later one", 300, x.turnOf(3, 2));
        CHECK.due("the next that comes", 3, x.turn(4, 5, 400));
        CHECK.due("the part", 100, x.turnOf(2, 2));
    }

    /** "place: place of the turn", of remove. */
    private static void removeATurnThatThereIs() {
        CHECK.due("the first place", 3, States.some().remove(0));
        CHECK.due("the last place", 3, States.some().remove(3));
        CHECK.outside("remove's place", 0, 3, States::some, LectureTurns::remove);
        CHECK.outside("remove's place of 20", 0, 19, States::full, LectureTurns::remove);
        CHECK.refused("no turn at all", Check.INVALID, States::empty, x -> x.remove(0));
    }

    /** "Returns how many turns there are then", down to none. */
    private static void removeTheLastOneThatThereIs() {
        LectureTurns x = States.full();
        for (int i = 19; i >= 0; i--) {
            CHECK.due("turns that are left", i, x.remove(i / 2));
            CHECK.due("counted", i, x.count(0));
            CHECK.due("terms that are left", 8 * i, x.count(2));
        }
        CHECK.due("none is left", Check.INVALID, x.remove(0));
        CHECK.due("speakers stay", 6, x.count(1));
        CHECK.due("corrections stay", 15, x.count(3));
        CHECK.due("a turn comes again", 0, x.turn(0, 1, 100));
    }

    /** There are 20 again behind a remove, the first, the last or one between, and the others stay as they are. */
    private static void removeMakesRoom() {
        for (int place : new int[] {0, 9, 19}) {
            LectureTurns x = States.full();
            CHECK.due("remove " + place, 19, x.remove(place));
            for (int i = 0; i < 19; i++) {
                int old = i < place ? i : i + 1;
                CHECK.due("begin", 100 * old, x.turnOf(i, 0));
                CHECK.due("end", Math.min(1999, 100 * old + 150), x.turnOf(i, 1));
                CHECK.due("pitch", 50 + 90 * (old % 6), x.turnOf(i, 2));
                CHECK.due("speaker", old % 6, x.turnOf(i, 3));
                CHECK.due("first term", old % 16, x.termAt(i, 0, 0));
                CHECK.due("last term", (old + 7) % 16, x.termAt(i, 7, 0));
            }
            CHECK.due("the twentieth", 19, x.turn(1998, 1999, 100));
            CHECK.due("the twenty-first", Check.LIMIT, x.turn(1998, 1999, 100));
        }
    }
}

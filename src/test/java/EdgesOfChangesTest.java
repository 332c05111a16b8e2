import java.util.ArrayList;
import java.util.List;

/** The boundary cases that the document names for changes, the history and errors: "Changes and errors", promise 24. */
public final class EdgesOfChangesTest {
    private static final Check CHECK = new Check();

    private record Change(String name, Call call) {
    }

    private static final Change[] CHANGES = {new Change("turn", x -> x.turn(20, 30, 100)),
        new Change("say", x -> x.say(2, 9)), new Change("part", x -> x.part(0, 20, 1)),
        new Change("remove", x -> x.remove(1)), new Change("correct", x -> x.correct(6, 7)),
        new Change("uncorrect", x -> x.uncorrect(3)), new Change("speaker", x -> x.speaker(300)),
        new Change("give", x -> x.give(0, 1)), new Change("join", x -> x.join(1, 0)),
        new Change("set", x -> x.set(0, 0)), new Change("play", x -> playText(x, "s300;"))};

    public static void main(String[] args) {
        eachChangeRecordsOneState();
        changesThatChangeNothingAreChanges();
        undoRestoresTheStateAheadOfEachChange();
        theFifthStateDropsTheOldest();
        statesAfterAnyNumberOfChanges();
        undoOfAnEmptyHistory();
        undoIsNoChangeItself();
        changesBehindAnUndo();
        theTextIsNotRecorded();
        questionsAreNoChanges();
        refusedCallsKeepTheOldestState();
        undoRestoresTheOrderOfTheTurns();
        undoRestoresTheSetting();
        undoAtTheLimits();
        aRefusedCallIsAsIfItHadNotCome();
        constantsOfTheErrors();
        the512thCall();
        CHECK.end();
    }

    private static int playText(LectureTurns x, String text) {
        x.clearText();
        Check.type(x, text);
        return x.play();
    }

    /** "the calls of turn, say, part, remove, correct, uncorrect, speaker, give, join, set and play" */
    private static void eachChangeRecordsOneState() {
        for (Change change : CHANGES) {
            LectureTurns x = States.some();
            x.undo();
            x.undo();
            CHECK.due("states ahead of " + change.name, 2, x.count(8));
            x.correct(3, 4);
            CHECK.holds(change.name + " is done", change.call.on(x) >= 0);
            CHECK.due("states behind " + change.name, 4, x.count(8));
        }
    }

    /** They "return no error": also where all is as before then. */
    private static void changesThatChangeNothingAreChanges() {
        Change[] changes = {new Change("set", x -> x.set(0, 30)), new Change("correct", x -> x.correct(3, 4)),
            new Change("play", x -> playText(x, ""))};
        for (Change change : changes) {
            LectureTurns x = States.some();
            x.undo();
            x.undo();
            x.correct(3, 4);
            CHECK.holds(change.name + " is done", change.call.on(x) >= 0);
            CHECK.due("states behind " + change.name, 4, x.count(8));
            CHECK.due("undo of " + change.name, 3, x.undo());
            CHECK.due("corrections", 1, x.count(3));
        }
    }

    /** "each change records everything before it but the text"; "Restores the latest state of the history" */
    private static void undoRestoresTheStateAheadOfEachChange() {
        for (Change change : CHANGES) {
            String difference = "";
            LectureTurns old = States.after(States::some, LectureTurns::clearText, x -> x.type('s')).get();
            LectureTurns x = States.after(States::some, change.call, LectureTurns::undo,
                    LectureTurns::clearText, y -> y.type('s')).get();
            CHECK.due("states behind " + change.name, 3, x.count(8));
            for (Call question : questions()) {
                int first = question.on(old);
                int then = question.on(x);
                difference = first == then ? difference : first + " and " + then;
            }
            CHECK.holds("undo of " + change.name + ": " + difference, difference.isEmpty());
        }
    }

    /** All of a state with four turns but the number of states. */
    private static List<Call> questions() {
        List<Call> all = new ArrayList<>();
        for (int i = 0; i <= 20; i++) {
            int what = i;
            if (what != 8) {
                all.add(x -> x.count(what));
            }
        }
        for (int i = 0; i < 40; i++) {
            int place = i / 8;
            int what = i % 8;
            all.add(x -> x.turnOf(place, what));
            all.add(x -> x.termAt(place, what, 1));
        }
        for (int i = 0; i < 16; i++) {
            int term = i;
            all.add(x -> x.termOf(term, 0));
        }
        for (int i = 0; i < 42; i++) {
            int speaker = i / 7;
            int what = i % 7;
            all.add(x -> x.speakerOf(speaker, what));
        }
        return all;
    }

    /** "at most 4 states"; "if there are 5 states then, the oldest one is dropped" */
    private static void theFifthStateDropsTheOldest() {
        LectureTurns x = new LectureTurns();
        for (int i = 1; i <= 4; i++) {
            x.speaker(100);
            CHECK.due("states", i, x.count(8));
        }
        x.speaker(100);
        CHECK.due("states behind the fifth change", 4, x.count(8));
        for (int left = 3; left >= 0; left--) {
            CHECK.due("undo", left, x.undo());
            CHECK.due("speakers", left + 1, x.count(1));
        }
        CHECK.due("the oldest is not there", Check.NOT_POSSIBLE, x.undo());
        CHECK.due("speakers", 1, x.count(1));
    }

    /** As above, wherever in its room the history is: after 0 to 30 changes. */
    private static void statesAfterAnyNumberOfChanges() {
        for (int changes = 0; changes <= 30; changes++) {
            LectureTurns x = new LectureTurns();
            for (int i = 1; i <= changes; i++) {
                CHECK.due("set", i == 1 ? 30 : 100 + i - 1, x.set(0, 100 + i));
            }
            int states = Math.min(4, changes);
            CHECK.due("states after " + changes, states, x.count(8));
            for (int k = 1; k <= states; k++) {
                CHECK.due("undo after " + changes, states - k, x.undo());
                CHECK.due("setting", changes == k ? 30 : 100 + changes - k, x.count(20));
            }
            CHECK.due("one more after " + changes, Check.NOT_POSSIBLE, x.undo());
        }
    }

    /** "NOT_POSSIBLE if it is empty" */
    private static void undoOfAnEmptyHistory() {
        CHECK.refused("at first", Check.NOT_POSSIBLE, States::empty, LectureTurns::undo);
        CHECK.refused("with a text", Check.NOT_POSSIBLE, States.text("s50;"), LectureTurns::undo);
        Call undo = LectureTurns::undo;
        CHECK.refused("after all are undone", Check.NOT_POSSIBLE,
                States.after(States::some, undo, undo, undo, undo), undo);
        CHECK.refused("after all of full are undone", Check.NOT_POSSIBLE,
                States.after(States::full, undo, undo, undo, undo), undo);
        CHECK.refused("after one", Check.NOT_POSSIBLE, States.after(States::empty, x -> x.speaker(100), undo), undo);
    }

    /** "which is removed from it": undo records nothing. */
    private static void undoIsNoChangeItself() {
        LectureTurns x = States.some();
        for (int left = 3; left >= 0; left--) {
            CHECK.due("undo", left, x.undo());
            CHECK.due("states", left, x.count(8));
        }
        CHECK.due("terms of then", 2, x.count(2));
        CHECK.due("corrections of then", 0, x.count(3));
    }

    /** A change behind an undo takes the place of what was undone. */
    private static void changesBehindAnUndo() {
        LectureTurns x = new LectureTurns();
        for (int i = 1; i <= 10; i++) {
            x.set(0, 2 * i);
            x.set(0, 2 * i + 1);
            CHECK.due("undo", Math.min(3, i), x.undo());
            CHECK.due("setting", 2 * i, x.count(20));
        }
        x.set(0, 100);
        int[] due = {20, 18, 16, 14};
        for (int k = 0; k < 4; k++) {
            CHECK.due("undo", 3 - k, x.undo());
            CHECK.due("setting", due[k], x.count(20));
        }
        CHECK.due("the oldest one was dropped", Check.NOT_POSSIBLE, x.undo());
    }

    /** "everything before it but the text" */
    private static void theTextIsNotRecorded() {
        LectureTurns x = States.text("s50;").get();
        CHECK.due("type is no change", 0, x.count(8));
        x.set(0, 1);
        Check.type(x, "s60;");
        x.set(0, 2);
        CHECK.due("clearText", 8, x.clearText());
        CHECK.due("clearText is no change", 2, x.count(8));
        Check.type(x, "x");
        CHECK.due("undo", 1, x.undo());
        CHECK.due("the text stays", 1, x.count(9));
        CHECK.due("undo", 0, x.undo());
        CHECK.due("the text stays", 1, x.count(9));
        CHECK.due("and its fault", 0, x.fault(2));
    }

    /** All calls but the changes record nothing and change nothing, in whatever state. */
    private static void questionsAreNoChanges() {
        Change[] questions = {new Change("turnOf", x -> x.turnOf(0, 7)), new Change("termAt", x -> x.termAt(0, 0, 1)),
            new Change("termOf", x -> x.termOf(15, 5)), new Change("speakerOf", x -> x.speakerOf(0, 6)),
            new Change("during", x -> x.during(10, 1)), new Change("interrupts", x -> x.interrupts(1, 0)),
            new Change("nearest", x -> x.nearest(100)), new Change("would", x -> x.would(14, 13)),
            new Change("together", x -> x.together(0)), new Change("silence", x -> x.silence(0)),
            new Change("doubtful", x -> x.doubtful(0)), new Change("count", x -> x.count(7)),
            new Change("fault", x -> x.fault(0))};
        for (Change question : questions) {
            String some = Same.difference(States::some, States.after(States::some, question.call));
            CHECK.holds(question.name + " changes nothing, but " + some, some.isEmpty());
            String full = Same.difference(States::full, States.after(States::full, question.call));
            CHECK.holds(question.name + " changes nothing of full, but " + full, full.isEmpty());
        }
    }

    /** "A call that returns an error changes nothing": the oldest of four states is still there behind many of them. */
    private static void refusedCallsKeepTheOldestState() {
        LectureTurns x = States.some();
        Call[] refused = {y -> y.turn(0, 0, 50), y -> y.say(4, 0), y -> y.part(0, 10, 0), y -> y.remove(4),
            y -> y.correct(6, 3), y -> y.uncorrect(0), y -> y.speaker(49), y -> y.give(0, 0), y -> y.join(0, 0),
            y -> y.set(0, 201), LectureTurns::play};
        for (Call call : refused) {
            CHECK.holds("it is refused", call.on(x) < 0);
            CHECK.due("states", 4, x.count(8));
        }
        for (int left = 3; left >= 0; left--) {
            CHECK.due("undo", left, x.undo());
        }
        CHECK.due("terms of the oldest state", 2, x.count(2));
        CHECK.due("corrections of the oldest state", 0, x.count(3));
    }

    /** "in the order in which they came": turns of the same begin are where they were, new ones come behind them. */
    private static void undoRestoresTheOrderOfTheTurns() {
        LectureTurns x = new LectureTurns();
        x.turn(5, 9, 100);
        x.turn(5, 9, 200);
        x.turn(5, 9, 300);
        x.remove(0);
        x.undo();
        for (int i = 0; i < 3; i++) {
            CHECK.due("pitch of " + i, 100 * (i + 1), x.turnOf(i, 2));
        }
        x.remove(2);
        CHECK.due("the latest one", 2, x.turn(5, 9, 400));
        x.undo();
        x.undo();
        CHECK.due("the third one again", 300, x.turnOf(2, 2));
        CHECK.due("the latest one", 3, x.turn(5, 9, 400));
    }

    /** The setting and what hangs on it. */
    private static void undoRestoresTheSetting() {
        LectureTurns x = new LectureTurns();
        x.speaker(100);
        x.set(0, 0);
        x.set(0, 200);
        x.undo();
        CHECK.due("0 again", 0, x.count(20));
        CHECK.due("nobody is near", Check.NOT_FOUND, x.nearest(101));
        x.undo();
        CHECK.due("30 again", 30, x.count(20));
        CHECK.due("somebody is near", 0, x.nearest(101));
    }

    /** A state that is full is full again behind an undo, and one that was not is not. */
    private static void undoAtTheLimits() {
        LectureTurns x = States.full();
        x.remove(0);
        x.undo();
        CHECK.due("turns", 20, x.count(0));
        CHECK.due("no more turns", Check.LIMIT, x.turn(0, 1, 100));
        CHECK.due("terms", 160, x.count(2));
        CHECK.due("no more terms", Check.LIMIT, x.say(19, 0));
        x.undo();
        CHECK.due("one term less", 159, x.count(2));
        CHECK.due("room for one", 8, x.say(19, 7));
        CHECK.due("no more terms", Check.LIMIT, x.say(19, 0));
        x.join(5, 0);
        x.undo();
        CHECK.due("no more speakers", Check.LIMIT, x.speaker(100));
        CHECK.due("turns of 5", 3, x.speakerOf(5, 1));
        CHECK.due("pitch of 0", 50, x.speakerOf(0, 0));
    }

    /** The same calls with and without refused ones between them come to the same. */
    private static void aRefusedCallIsAsIfItHadNotCome() {
        Call[] refused = {y -> y.turn(-1, 5, 100), y -> y.say(0, 16), y -> y.part(0, 5, 9), y -> y.remove(20),
            y -> y.correct(5, 5), y -> y.uncorrect(15), y -> y.speaker(501), y -> y.give(20, 0), y -> y.join(5, 6),
            y -> y.set(1, 1), y -> y.type(127), y -> y.would(16, 0), y -> y.fault(3)};
        String difference = Same.difference(States::some, () -> {
            LectureTurns x = new LectureTurns();
            Call[] calls = {y -> y.speaker(100), y -> y.speaker(200), y -> y.turn(10, 50, 110),
                y -> y.turn(30, 40, 195), y -> y.turn(45, 60, 90), y -> y.turn(70, 80, 400), y -> y.say(0, 3),
                y -> y.say(0, 4), y -> y.say(1, 3), y -> y.say(3, 5), y -> y.correct(3, 4), y -> y.correct(4, 6)};
            for (Call call : calls) {
                for (Call wrong : refused) {
                    wrong.on(x);
                }
                call.on(x);
            }
            Check.type(x, "s100;w0,7;g2,1;x");
            return x;
        });
        CHECK.holds("all is the same, but " + difference, difference.isEmpty());
    }

    /** "INVALID_ARGUMENT = -1000001 ... NOT_FOUND = -1000004": each as the call that is refused returns it. */
    private static void constantsOfTheErrors() {
        CHECK.due("INVALID_ARGUMENT", -1000001, new LectureTurns().speaker(49));
        CHECK.due("NOT_POSSIBLE", -1000002, new LectureTurns().undo());
        CHECK.due("LIMIT_REACHED", -1000003, States.full().speaker(50));
        CHECK.due("NOT_FOUND", -1000004, new LectureTurns().nearest(50));
    }

    /** "used for at most 512 calls": the last one answers as the first one, of whatever kind those ahead of it are. */
    private static void the512thCall() {
        LectureTurns changed = new LectureTurns();
        LectureTurns refused = new LectureTurns();
        LectureTurns typed = new LectureTurns();
        LectureTurns moved = new LectureTurns();
        for (int i = 1; i <= 511; i++) {
            CHECK.due("change " + i, i == 1 ? 30 : (i - 1) % 201, changed.set(0, i % 201));
            CHECK.due("refused call " + i, Check.INVALID, refused.turn(i, i, 100));
            CHECK.due("character " + i, i % 61 == 0 ? 60 : i % 61, i % 61 == 0 ? typed.clearText() : typed.type('s'));
            CHECK.due("turn " + i, 0, i % 2 == 1 ? moved.turn(0, 1, 100) : moved.remove(0));
        }
        CHECK.due("the last call behind changes", 3, changed.undo());
        CHECK.due("the last call behind refused ones", 0, refused.turn(0, 1, 100));
        CHECK.due("the last call behind characters", 511 % 61, typed.clearText());
        CHECK.due("the last call behind turns", 0, moved.remove(0));
    }
}

/** Promise 24 and "Changes and errors": undo and the history. */
public final class HistoryTest {
    private static final Check CHECK = new Check();

    public static void main(String[] args) {
        undoRestoresEachChange();
        fourStatesAreKept();
        undoIsNoChange();
        errorsRecordNothing();
        questionsRecordNothing();
        CHECK.end();
    }

    private static LectureTurns example() {
        LectureTurns x = new LectureTurns();
        x.speaker(100);
        x.speaker(200);
        x.turn(0, 10, 101);
        x.turn(5, 20, 207);
        x.say(0, 3);
        x.say(0, 4);
        x.say(1, 3);
        x.correct(3, 4);
        Check.type(x, "s100;");
        return x;
    }

    /** All that can be asked, as one text. */
    private static String picture(LectureTurns x) {
        StringBuilder all = new StringBuilder();
        for (int what = 0; what <= 20; what++) {
            all.append(what == 8 ? 0 : x.count(what)).append(' ');
        }
        for (int place = 0; place < x.count(0); place++) {
            for (int what = 0; what < 8; what++) {
                all.append(x.turnOf(place, what)).append(' ');
                all.append(x.termAt(place, what, 0)).append(' ');
            }
        }
        for (int term = 0; term < 16; term++) {
            all.append(x.termOf(term, 0)).append(' ');
        }
        for (int speaker = 0; speaker < 6; speaker++) {
            for (int what = 0; what < 7; what++) {
                all.append(x.speakerOf(speaker, what)).append(' ');
            }
        }
        return all.toString();
    }

    private static void undoRestoresEachChange() {
        Call[] changes = {x -> x.turn(3, 4, 100), x -> x.say(1, 7), x -> x.part(0, 5, 1), x -> x.remove(0),
            x -> x.correct(4, 9), x -> x.uncorrect(3), x -> x.speaker(300), x -> x.give(0, 1), x -> x.join(1, 0),
            x -> x.set(0, 5), LectureTurns::play};
        for (int i = 0; i < changes.length; i++) {
            LectureTurns x = example();
            String old = picture(x);
            CHECK.holds("change " + i + " is done", changes[i].on(x) >= 0);
            CHECK.holds("change " + i + " changes", !picture(x).equals(old));
            CHECK.due("undo of change " + i, 3, x.undo());
            CHECK.holds("change " + i + " is undone", picture(x).equals(old));
        }
    }

    private static void fourStatesAreKept() {
        LectureTurns x = new LectureTurns();
        for (int i = 1; i <= 9; i++) {
            x.set(0, i);
            CHECK.due("states", Math.min(i, 4), x.count(8));
        }
        for (int i = 8; i >= 5; i--) {
            CHECK.due("undo", i - 5, x.undo());
            CHECK.due("setting", i, x.count(20));
        }
        CHECK.due("undo of nothing", Check.NOT_POSSIBLE, x.undo());
        CHECK.due("setting", 5, x.count(20));
    }

    private static void undoIsNoChange() {
        LectureTurns x = new LectureTurns();
        x.set(0, 1);
        x.set(0, 2);
        x.undo();
        CHECK.due("states", 1, x.count(8));
        x.set(0, 3);
        CHECK.due("undo", 1, x.undo());
        CHECK.due("setting", 1, x.count(20));
        CHECK.due("undo", 0, x.undo());
        CHECK.due("setting", 30, x.count(20));
    }

    private static void errorsRecordNothing() {
        LectureTurns x = new LectureTurns();
        Call[] errors = {y -> y.turn(0, 0, 50), y -> y.say(0, 0), y -> y.part(0, 1, 0), y -> y.remove(0),
            y -> y.correct(0, 0), y -> y.uncorrect(0), y -> y.speaker(0), y -> y.give(0, 0), y -> y.join(0, 1),
            y -> y.set(0, 201), LectureTurns::undo};
        for (int i = 0; i < errors.length; i++) {
            CHECK.holds("error " + i, errors[i].on(x) < 0);
            CHECK.due("states", 0, x.count(8));
        }
    }

    private static void questionsRecordNothing() {
        LectureTurns x = example();
        String old = picture(x);
        Call[] questions = {y -> y.turnOf(0, 5), y -> y.termAt(0, 0, 1), y -> y.termOf(4, 5), y -> y.speakerOf(0, 6),
            y -> y.during(5, 1), y -> y.interrupts(1, 0), y -> y.nearest(100), y -> y.would(4, 9),
            y -> y.together(0), y -> y.silence(0), y -> y.doubtful(0), y -> y.count(5), y -> y.fault(0)};
        for (Call question : questions) {
            question.on(x);
        }
        CHECK.holds("all is as it was", picture(x).equals(old));
        CHECK.due("states", 4, x.count(8));
        x.undo();
        CHECK.due("the latest change is undone", Check.NOT_FOUND, x.termOf(3, 0));
    }
}

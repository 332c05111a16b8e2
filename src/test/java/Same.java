import java.util.ArrayList;
import java.util.List;
import java.util.function.Supplier;

/** Tells whether two objects are in the same state, by all that can be asked of them, now and after each undo. */
final class Same {
    /** Questions to one object, which may be used for 512 calls, those of its state included. */
    private static final int QUESTIONS_OF_AN_OBJECT = 180;
    private static final int MOST_UNDOS = 4;
    private static final List<List<Question>> PAGES = allPages();

    private record Question(String name, Call call) {
    }

    private Same() {
    }

    /** The first question that the two ways answer differently, or an empty text. */
    static String difference(Supplier<LectureTurns> one, Supplier<LectureTurns> other) {
        for (int undos = 0; undos <= MOST_UNDOS; undos++) {
            for (List<Question> page : PAGES) {
                String found = differenceOf(one.get(), other.get(), undos, page);
                if (!found.isEmpty()) {
                    return found;
                }
            }
        }
        return "";
    }

    private static String differenceOf(LectureTurns x, LectureTurns y, int undos, List<Question> page) {
        for (int i = 0; i < undos; i++) {
            if (x.undo() != y.undo()) {
                return "undo " + i + " is another";
            }
        }
        for (Question question : page) {
            int first = question.call.on(x);
            int second = question.call.on(y);
            if (first != second) {
                return "after " + undos + " undos " + question.name + " is " + first + " or " + second;
            }
        }
        return "";
    }

    private static List<List<Question>> allPages() {
        List<Question> all = allQuestions();
        List<List<Question>> pages = new ArrayList<>();
        for (int from = 0; from < all.size(); from += QUESTIONS_OF_AN_OBJECT) {
            pages.add(all.subList(from, Math.min(all.size(), from + QUESTIONS_OF_AN_OBJECT)));
        }
        pages.add(changesAtTheEnd());
        return pages;
    }

    private static List<Question> allQuestions() {
        List<Question> all = new ArrayList<>();
        for (int what = 0; what <= 20; what++) {
            ask(all, "count", what, LectureTurns::count);
        }
        for (int what = 0; what <= 7; what++) {
            ask(all, "turnOf", what, 20, LectureTurns::turnOf);
        }
        for (int index = 0; index < 8; index++) {
            int i = index;
            ask(all, "termAt", index, 20, (x, place, of) -> x.termAt(place, i, 0));
        }
        for (int what = 0; what <= 6; what++) {
            ask(all, "termOf", what, 16, LectureTurns::termOf);
            ask(all, "speakerOf", what, 6, LectureTurns::speakerOf);
        }
        for (int other = 0; other < 6; other++) {
            ask(all, "interrupts", other, 6, LectureTurns::interrupts);
        }
        for (int what = 0; what <= 2; what++) {
            ask(all, "together", what, LectureTurns::together);
            ask(all, "silence", what, LectureTurns::silence);
            ask(all, "doubtful", what, LectureTurns::doubtful);
            ask(all, "fault", what, LectureTurns::fault);
        }
        for (int pitch = 50; pitch <= 500; pitch += 15) {
            ask(all, "nearest", pitch, LectureTurns::nearest);
        }
        return all;
    }

    /** The text is told only by what it does. */
    private static List<Question> changesAtTheEnd() {
        List<Question> all = new ArrayList<>();
        all.add(new Question("play()", LectureTurns::play));
        for (int what = 0; what <= 10; what++) {
            ask(all, "after play, count", what, LectureTurns::count);
        }
        all.add(new Question("turn(7, 8, 100)", x -> x.turn(7, 8, 100)));
        all.add(new Question("type(';')", x -> x.type(';')));
        for (int what = 0; what <= 2; what++) {
            ask(all, "after type, fault", what, LectureTurns::fault);
        }
        all.add(new Question("clearText()", LectureTurns::clearText));
        return all;
    }

    private interface OfTwo {
        int on(LectureTurns x, int which, int what);
    }

    private static void ask(List<Question> all, String name, int what, CallWith call) {
        all.add(new Question(name + "(" + what + ")", x -> call.on(x, what)));
    }

    private static void ask(List<Question> all, String name, int what, int number, OfTwo call) {
        for (int i = 0; i < number; i++) {
            int which = i;
            all.add(new Question(name + "(" + i + ", " + what + ")", x -> call.on(x, which, what)));
        }
    }
}

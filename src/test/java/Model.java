import java.util.ArrayDeque;
import java.util.ArrayList;
import java.util.List;

/**
 * The document once more, in the plainest way: second by second, pair by pair, and a state that is copied whole.
 * It shares nothing with the program but the error codes.
 */
final class Model {
    private static final int INVALID = -1000001;
    private static final int NOT_POSSIBLE = -1000002;
    private static final int LIMIT = -1000003;
    private static final int NOT_FOUND = -1000004;

    private static final class Turn {
        int begin;
        int end;
        int pitch;
        Integer speaker;
        List<Integer> terms = new ArrayList<>();

        Turn(int begin, int end, int pitch, Integer speaker) {
            this.begin = begin;
            this.end = end;
            this.pitch = pitch;
            this.speaker = speaker;
        }

        Turn copy() {
            Turn made = new Turn(begin, end, pitch, speaker);
            made.terms.addAll(terms);
            return made;
        }

        boolean goesOn(int second) {
            return begin <= second && second < end;
        }

        boolean overlaps(Turn other) {
            return this != other && begin < other.end && other.begin < end;
        }

        boolean interrupts(Turn other) {
            return begin > other.begin && begin < other.end && speaker != null && other.speaker != null
                    && !speaker.equals(other.speaker);
        }
    }

    private static final class State {
        List<Turn> turns = new ArrayList<>();
        Integer[] corrections = new Integer[16];
        Integer[] speakers = new Integer[6];
        int setting = 30;

        State copy() {
            State made = new State();
            for (Turn turn : turns) {
                made.turns.add(turn.copy());
            }
            made.corrections = corrections.clone();
            made.speakers = speakers.clone();
            made.setting = setting;
            return made;
        }
    }

    private State state = new State();
    private final ArrayDeque<State> history = new ArrayDeque<>();
    private String text = "";

    private interface Change {
        int run();
    }

    private int change(Change change) {
        State old = state.copy();
        int answer = change.run();
        if (answer < 0) {
            state = old;
            return answer;
        }
        history.addLast(old);
        if (history.size() > 4) {
            history.removeFirst();
        }
        return answer;
    }

    int call(String name, int a, int b, int c) {
        switch (name) {
            case "turn": return change(() -> turn(a, b, c));
            case "say": return change(() -> say(a, b));
            case "part": return change(() -> part(a, b, c));
            case "remove": return change(() -> remove(a));
            case "correct": return change(() -> correct(a, b));
            case "uncorrect": return change(() -> uncorrect(a));
            case "speaker": return change(() -> speaker(a));
            case "give": return change(() -> give(a, b));
            case "join": return change(() -> join(a, b));
            case "set": return change(() -> set(a, b));
            case "play": return change(this::play);
            case "turnOf": return turnOf(a, b);
            case "termAt": return termAt(a, b, c);
            case "termOf": return termOf(a, b);
            case "speakerOf": return speakerOf(a, b);
            case "during": return during(a, b);
            case "interrupts": return interrupts(a, b);
            case "nearest": return nearest(a);
            case "would": return would(a, b);
            case "together": return together(a);
            case "silence": return silence(a);
            case "doubtful": return doubtful(a);
            case "count": return count(a);
            case "undo": return undo();
            case "type": return type(a);
            case "clearText": return clearText();
            case "fault": return fault(a);
            default: throw new IllegalArgumentException(name);
        }
    }

    private boolean isPlace(int place) {
        return place >= 0 && place < state.turns.size();
    }

    private boolean isSpeaker(int speaker) {
        return speaker >= 0 && speaker < 6 && state.speakers[speaker] != null;
    }

    private static boolean isTerm(int term) {
        return term >= 0 && term < 16;
    }

    private int insert(Turn made) {
        int place = state.turns.size();
        while (place > 0 && state.turns.get(place - 1).begin > made.begin) {
            place--;
        }
        state.turns.add(place, made);
        return place;
    }

    private Integer nearestOf(int pitch) {
        for (int away = 0; away <= state.setting; away++) {
            for (int k = 0; k < 6; k++) {
                if (state.speakers[k] != null && Math.abs(state.speakers[k] - pitch) == away) {
                    return k;
                }
            }
        }
        return null;
    }

    private int turn(int begin, int end, int pitch) {
        if (begin < 0 || begin > 1998 || end <= begin || end > 1999 || pitch < 50 || pitch > 500) {
            return INVALID;
        }
        if (state.turns.size() == 20) {
            return LIMIT;
        }
        return insert(new Turn(begin, end, pitch, nearestOf(pitch)));
    }

    private int say(int place, int term) {
        if (!isPlace(place) || !isTerm(term)) {
            return INVALID;
        }
        List<Integer> terms = state.turns.get(place).terms;
        if (terms.size() == 8) {
            return LIMIT;
        }
        terms.add(term);
        return terms.size();
    }

    private int part(int place, int time, int index) {
        if (!isPlace(place)) {
            return INVALID;
        }
        Turn old = state.turns.get(place);
        if (time <= old.begin || time >= old.end || index < 0 || index > old.terms.size()) {
            return INVALID;
        }
        if (state.turns.size() == 20) {
            return LIMIT;
        }
        Turn made = new Turn(time, old.end, old.pitch, old.speaker);
        while (old.terms.size() > index) {
            made.terms.add(old.terms.remove(index));
        }
        old.end = time;
        return insert(made);
    }

    private int remove(int place) {
        if (!isPlace(place)) {
            return INVALID;
        }
        state.turns.remove(place);
        return state.turns.size();
    }

    private int shown(int term) {
        return state.corrections[term] == null ? term : shown(state.corrections[term]);
    }

    private List<Integer> shownPlaces() {
        List<Integer> places = new ArrayList<>();
        for (Turn turn : state.turns) {
            for (int term : turn.terms) {
                places.add(shown(term));
            }
        }
        return places;
    }

    private int unlike(List<Integer> old) {
        List<Integer> then = shownPlaces();
        int number = 0;
        for (int i = 0; i < old.size(); i++) {
            if (!old.get(i).equals(then.get(i))) {
                number++;
            }
        }
        return number;
    }

    private int correct(int term, int to) {
        if (!isTerm(term) || !isTerm(to) || term == to) {
            return INVALID;
        }
        List<Integer> old = shownPlaces();
        state.corrections[term] = to;
        Integer at = to;
        while (at != null) {
            if (at == term) {
                return NOT_POSSIBLE;
            }
            at = state.corrections[at];
        }
        return unlike(old);
    }

    private int uncorrect(int term) {
        if (!isTerm(term)) {
            return INVALID;
        }
        if (state.corrections[term] == null) {
            return NOT_POSSIBLE;
        }
        List<Integer> old = shownPlaces();
        state.corrections[term] = null;
        return unlike(old);
    }

    private int speaker(int pitch) {
        if (pitch < 50 || pitch > 500) {
            return INVALID;
        }
        for (int k = 0; k < 6; k++) {
            if (state.speakers[k] == null) {
                state.speakers[k] = pitch;
                return k;
            }
        }
        return LIMIT;
    }

    private List<Turn> turnsOf(int speaker) {
        List<Turn> found = new ArrayList<>();
        for (Turn turn : state.turns) {
            if (turn.speaker != null && turn.speaker == speaker) {
                found.add(turn);
            }
        }
        return found;
    }

    private void tune(int speaker) {
        List<Turn> own = turnsOf(speaker);
        int sum = 0;
        for (Turn turn : own) {
            sum += turn.pitch;
        }
        if (!own.isEmpty()) {
            state.speakers[speaker] = sum / own.size();
        }
    }

    private int give(int place, int speaker) {
        if (!isPlace(place) || !isSpeaker(speaker)) {
            return INVALID;
        }
        Turn turn = state.turns.get(place);
        if (turn.speaker != null && turn.speaker == speaker) {
            return NOT_POSSIBLE;
        }
        turn.speaker = speaker;
        tune(speaker);
        return state.speakers[speaker];
    }

    private int join(int speaker, int into) {
        if (!isSpeaker(speaker) || !isSpeaker(into) || speaker == into) {
            return INVALID;
        }
        for (Turn turn : turnsOf(speaker)) {
            turn.speaker = into;
        }
        state.speakers[speaker] = null;
        tune(into);
        return turnsOf(into).size();
    }

    private int set(int what, int value) {
        if (what != 0 || value < 0 || value > 200) {
            return INVALID;
        }
        int old = state.setting;
        state.setting = value;
        return old;
    }

    private int turnOf(int place, int what) {
        if (!isPlace(place) || what < 0 || what > 7) {
            return INVALID;
        }
        Turn turn = state.turns.get(place);
        int found = 0;
        switch (what) {
            case 0: return turn.begin;
            case 1: return turn.end;
            case 2: return turn.pitch;
            case 3: return turn.speaker == null ? NOT_FOUND : turn.speaker;
            case 4: return turn.terms.size();
            case 5:
                for (int i = 0; i < state.turns.size(); i++) {
                    found |= turn.overlaps(state.turns.get(i)) ? 1 << i : 0;
                }
                return found;
            case 6:
                for (int i = 0; i < state.turns.size(); i++) {
                    found |= turn.interrupts(state.turns.get(i)) ? 1 << i : 0;
                }
                return found;
            default:
                for (int second = turn.begin; second < turn.end; second++) {
                    found += goingOn(second) == 1 ? 1 : 0;
                }
                return found;
        }
    }

    private int goingOn(int second) {
        int number = 0;
        for (Turn turn : state.turns) {
            number += turn.goesOn(second) ? 1 : 0;
        }
        return number;
    }

    private int termAt(int place, int index, int what) {
        if (!isPlace(place) || index < 0 || what < 0 || what > 1) {
            return INVALID;
        }
        List<Integer> terms = state.turns.get(place).terms;
        if (index >= terms.size()) {
            return NOT_FOUND;
        }
        return what == 0 ? terms.get(index) : shown(terms.get(index));
    }

    private boolean shows(Turn turn, int term) {
        return turn.terms.stream().anyMatch(told -> shown(told) == term);
    }

    private int termOf(int term, int what) {
        if (!isTerm(term) || what < 0 || what > 6) {
            return INVALID;
        }
        int found = 0;
        switch (what) {
            case 0: return state.corrections[term] == null ? NOT_FOUND : state.corrections[term];
            case 1: return shown(term);
            case 2: return state.corrections[term] == null ? 0 : 1 + termOf(state.corrections[term], 2);
            case 3: return (int) shownPlaces().stream().filter(place -> place == term).count();
            case 4:
                for (int i = 0; i < state.turns.size(); i++) {
                    found |= shows(state.turns.get(i), term) ? 1 << i : 0;
                }
                return found;
            case 5:
                for (Turn turn : state.turns) {
                    found |= turn.speaker != null && shows(turn, term) ? 1 << turn.speaker : 0;
                }
                return found;
            default:
                for (int k = 0; k < 16; k++) {
                    found |= shown(k) == term ? 1 << k : 0;
                }
                return found;
        }
    }

    private int speakerOf(int speaker, int what) {
        if (!isSpeaker(speaker) || what < 0 || what > 6) {
            return INVALID;
        }
        int seconds = 0;
        int terms = 0;
        int shown = 0;
        int by = 0;
        int of = 0;
        for (Turn turn : turnsOf(speaker)) {
            seconds += turn.end - turn.begin;
            terms += turn.terms.size();
            for (int told : turn.terms) {
                shown |= 1 << shown(told);
            }
            for (Turn other : state.turns) {
                by += turn.interrupts(other) ? 1 : 0;
                of += other.interrupts(turn) ? 1 : 0;
            }
        }
        switch (what) {
            case 0: return state.speakers[speaker];
            case 1: return turnsOf(speaker).size();
            case 2: return seconds;
            case 3: return shown;
            case 4: return by;
            case 5: return of;
            default:
                return turnsOf(speaker).isEmpty() ? NOT_FOUND
                        : Float.floatToIntBits((float) terms * 60f / (float) seconds);
        }
    }

    private int during(int time, int what) {
        if (time < 0 || time > 1999 || what < 0 || what > 1) {
            return INVALID;
        }
        int turns = 0;
        int speakers = 0;
        for (int i = 0; i < state.turns.size(); i++) {
            Turn turn = state.turns.get(i);
            if (turn.goesOn(time)) {
                turns |= 1 << i;
                speakers |= turn.speaker == null ? 0 : 1 << turn.speaker;
            }
        }
        return what == 0 ? turns : speakers;
    }

    private int interrupts(int speaker, int other) {
        if (!isSpeaker(speaker) || !isSpeaker(other) || speaker == other) {
            return INVALID;
        }
        int number = 0;
        for (Turn turn : turnsOf(speaker)) {
            for (Turn that : turnsOf(other)) {
                number += turn.interrupts(that) ? 1 : 0;
            }
        }
        return number;
    }

    private int nearest(int pitch) {
        if (pitch < 50 || pitch > 500) {
            return INVALID;
        }
        Integer found = nearestOf(pitch);
        return found == null ? NOT_FOUND : found;
    }

    private int would(int term, int to) {
        State old = state.copy();
        int answer = correct(term, to);
        state = old;
        return answer;
    }

    private int together(int what) {
        if (what < 0 || what > 2) {
            return INVALID;
        }
        for (int number = 20; number > 0; number--) {
            for (int lower = 0; lower < 16; lower++) {
                for (int higher = lower + 1; higher < 16; higher++) {
                    if (Integer.bitCount(termOf(lower, 4) & termOf(higher, 4)) == number) {
                        return new int[] {lower, higher, number}[what];
                    }
                }
            }
        }
        return NOT_FOUND;
    }

    private int silence(int what) {
        if (what < 0 || what > 1) {
            return INVALID;
        }
        int first = 2000;
        int last = 0;
        for (Turn turn : state.turns) {
            first = Math.min(first, turn.begin);
            last = Math.max(last, turn.end);
        }
        int best = 0;
        int bestFirst = 0;
        int length = 0;
        for (int second = first; second < last; second++) {
            length = goingOn(second) == 0 ? length + 1 : 0;
            if (length > best) {
                best = length;
                bestFirst = second - length + 1;
            }
        }
        if (best == 0) {
            return NOT_FOUND;
        }
        return what == 0 ? bestFirst : best;
    }

    private int doubtful(int what) {
        if (what < 0 || what > 1) {
            return INVALID;
        }
        int place = NOT_FOUND;
        int far = NOT_FOUND;
        for (int i = state.turns.size() - 1; i >= 0; i--) {
            Turn turn = state.turns.get(i);
            if (turn.speaker != null) {
                int distance = Math.abs(turn.pitch - state.speakers[turn.speaker]);
                if (distance >= far) {
                    place = i;
                    far = distance;
                }
            }
        }
        return what == 0 ? place : far;
    }

    private int count(int what) {
        int number = 0;
        switch (what) {
            case 0: return state.turns.size();
            case 1: return Integer.bitCount(count(10));
            case 2: return shownPlaces().size();
            case 3:
                for (Integer correction : state.corrections) {
                    number += correction == null ? 0 : 1;
                }
                return number;
            case 4:
                for (Turn turn : state.turns) {
                    number += turn.speaker == null ? 1 : 0;
                }
                return number;
            case 5:
                for (int i = 0; i < state.turns.size(); i++) {
                    number += Integer.bitCount(turnOf(i, 5));
                }
                return number / 2;
            case 6:
            case 7:
                for (int second = 0; second < 2000; second++) {
                    number += goingOn(second) > what - 6 ? 1 : 0;
                }
                return number;
            case 8: return history.size();
            case 9: return text.length();
            case 10:
                for (int k = 0; k < 6; k++) {
                    number |= state.speakers[k] == null ? 0 : 1 << k;
                }
                return number;
            case 20: return state.setting;
            default: return INVALID;
        }
    }

    private int undo() {
        if (history.isEmpty()) {
            return NOT_POSSIBLE;
        }
        state = history.removeLast();
        return history.size();
    }

    private int type(int character) {
        if (character < 32 || character > 126) {
            return INVALID;
        }
        if (text.length() == 60) {
            return LIMIT;
        }
        text += (char) character;
        return text.length();
    }

    private int clearText() {
        int length = text.length();
        text = "";
        return length;
    }

    private static final String NUMBER = "([0-9]{1,4})";
    private static final String[] FORMS = {
        "t" + NUMBER + "," + NUMBER + "," + NUMBER + ";", "w" + NUMBER + "," + NUMBER + ";",
        "c" + NUMBER + "," + NUMBER + ";", "s" + NUMBER + ";", "g" + NUMBER + "," + NUMBER + ";"};

    /** Position, reason and cause of the fault of the text, or the number of orders alone. */
    private int[] runText() {
        int position = 0;
        int orders = 0;
        while (position < text.length()) {
            String rest = text.substring(position);
            Integer answer = null;
            int length = 0;
            for (String form : FORMS) {
                java.util.regex.Matcher matcher = java.util.regex.Pattern.compile(form).matcher(rest);
                if (matcher.lookingAt()) {
                    int[] n = new int[3];
                    for (int k = 0; k < matcher.groupCount(); k++) {
                        n[k] = Integer.parseInt(matcher.group(k + 1));
                    }
                    answer = obey(form.charAt(0), n);
                    length = matcher.end();
                }
            }
            if (answer == null) {
                return new int[] {position, 1, longestStart(rest)};
            }
            if (answer < 0) {
                return new int[] {position, 2, answer};
            }
            position += length;
            orders++;
        }
        return new int[] {orders};
    }

    private int obey(char letter, int[] n) {
        switch (letter) {
            case 't': return turn(n[0], n[1], n[2]);
            case 'w': return say(n[0], n[1]);
            case 'c': {
                State old = state.copy();
                int answer = correct(n[0], n[1]);
                state = answer < 0 ? old : state;
                return answer;
            }
            case 's': return speaker(n[0]);
            default: return give(n[0], n[1]);
        }
    }

    /** The longest start of a text that some order could begin with. */
    private static int longestStart(String rest) {
        int longest = 0;
        for (int length = 1; length <= rest.length(); length++) {
            for (String form : FORMS) {
                java.util.regex.Matcher matcher =
                        java.util.regex.Pattern.compile(form).matcher(rest.substring(0, length));
                if (matcher.matches() || matcher.hitEnd()) {
                    longest = length;
                }
            }
        }
        return longest;
    }

    private int fault(int what) {
        if (what < 0 || what > 2) {
            return INVALID;
        }
        State old = state.copy();
        int[] found = runText();
        state = old;
        return found.length == 1 ? NOT_FOUND : found[what];
    }

    private int play() {
        int[] found = runText();
        return found.length == 1 ? found[0] : NOT_POSSIBLE;
    }
}

import java.util.Arrays;

/**
 * A transcript of a lecture: its turns, the speakers, the terms that are said and their corrections.
 *
 * <p>Everything that a call needs is made by the constructor and used again, so that no call makes an object.
 */
public final class LectureTurns {
    public static final int INVALID_ARGUMENT = -1000001;
    public static final int NOT_POSSIBLE = -1000002;
    public static final int LIMIT_REACHED = -1000003;
    public static final int NOT_FOUND = -1000004;

    private static final int NONE = -1;
    private static final int TERMS = 16;
    private static final int MOST_TURNS = 20;
    private static final int MOST_TERMS_OF_TURN = 8;
    private static final int MOST_SPEAKERS = 6;
    private static final int MOST_STATES = 4;
    private static final int MOST_CHARACTERS = 60;
    private static final int MOST_NUMBERS = 3;
    private static final int MOST_DIGITS = 4;
    private static final int LAST_TIME = 1999;
    private static final int LOWEST_PITCH = 50;
    private static final int HIGHEST_PITCH = 500;
    private static final int MOST_AWAY = 200;
    private static final int FIRST_AWAY = 30;
    private static final int LOWEST_CHARACTER = 32;
    private static final int HIGHEST_CHARACTER = 126;
    private static final int NO_ERROR = 0;
    private static final int NO_FAULT = 0;
    private static final int NOT_OF_THE_FORM = 1;
    private static final int REFUSED = 2;

    private final Transcript now;
    private final Transcript before;
    private final History history;
    private final Survey survey;
    private final Text text;
    private final Review review;

    public LectureTurns() {
        now = new Transcript();
        before = new Transcript();
        history = new History();
        survey = new Survey(now);
        text = new Text();
        review = new Review(text);
    }

    // ---- turns

    public int turn(int begin, int end, int pitch) {
        before.takeFrom(now);
        return recorded(now.addTurn(begin, end, pitch));
    }

    public int say(int place, int term) {
        before.takeFrom(now);
        return recorded(now.addTerm(place, term));
    }

    public int part(int place, int time, int index) {
        before.takeFrom(now);
        return recorded(now.partTurn(place, time, index));
    }

    public int remove(int place) {
        before.takeFrom(now);
        return recorded(now.dropTurn(place));
    }

    // ---- terms

    public int correct(int term, int to) {
        before.takeFrom(now);
        return recorded(now.addCorrection(term, to));
    }

    public int uncorrect(int term) {
        before.takeFrom(now);
        return recorded(now.dropCorrection(term));
    }

    // ---- speakers

    public int speaker(int pitch) {
        before.takeFrom(now);
        return recorded(now.addSpeaker(pitch));
    }

    public int give(int place, int speaker) {
        before.takeFrom(now);
        return recorded(now.giveTurn(place, speaker));
    }

    public int join(int speaker, int into) {
        before.takeFrom(now);
        return recorded(now.joinSpeakers(speaker, into));
    }

    public int set(int what, int value) {
        before.takeFrom(now);
        return recorded(now.changeSetting(what, value));
    }

    // ---- what there is

    public int turnOf(int place, int what) {
        return survey.ofTurn(place, what);
    }

    public int termAt(int place, int index, int what) {
        return survey.ofPlace(place, index, what);
    }

    public int termOf(int term, int what) {
        return survey.ofTerm(term, what);
    }

    public int speakerOf(int speaker, int what) {
        return survey.ofSpeaker(speaker, what);
    }

    public int during(int time, int what) {
        return survey.ofSecond(time, what);
    }

    public int interrupts(int speaker, int other) {
        return survey.ofInterruptions(speaker, other);
    }

    // ---- what would be

    public int nearest(int pitch) {
        return survey.ofPitch(pitch);
    }

    public int would(int term, int to) {
        return survey.ofCorrection(term, to);
    }

    public int together(int what) {
        return survey.ofPairs(what);
    }

    public int silence(int what) {
        return survey.ofSilence(what);
    }

    public int doubtful(int what) {
        return survey.ofDoubt(what);
    }

    public int count(int what) {
        switch (what) {
            case 8:
                return history.size();
            case 9:
                return text.length();
            default:
                return survey.ofAll(what);
        }
    }

    public int undo() {
        if (history.isEmpty()) {
            return NOT_POSSIBLE;
        }
        return history.restoreLatest(now);
    }

    // ---- texts

    public int type(int character) {
        if (!isWithin(character, LOWEST_CHARACTER, HIGHEST_CHARACTER)) {
            return INVALID_ARGUMENT;
        }
        if (text.isFull()) {
            return LIMIT_REACHED;
        }
        return text.append(character);
    }

    public int clearText() {
        return text.empty();
    }

    public int fault(int what) {
        if (!isWithin(what, 0, 2)) {
            return INVALID_ARGUMENT;
        }
        review.run(now);
        if (!review.foundFault()) {
            return NOT_FOUND;
        }
        switch (what) {
            case 0:
                return review.position();
            case 1:
                return review.reason();
            default:
                return review.cause();
        }
    }

    public int play() {
        review.run(now);
        if (review.foundFault()) {
            return NOT_POSSIBLE;
        }
        before.takeFrom(now);
        now.takeFrom(review.outcome());
        return recorded(review.ordersDone());
    }

    /** Keeps the state before a change, if the answer is no error: no answer of a change is below 0. */
    private int recorded(int answer) {
        if (answer >= 0) {
            history.keep(before);
        }
        return answer;
    }

    private static boolean isWithin(int value, int lowest, int highest) {
        return value >= lowest && value <= highest;
    }

    /** The turns in their order: a row for each thing that they have. */
    private static final class Turns {
        private final int[] begins = new int[MOST_TURNS];
        private final int[] ends = new int[MOST_TURNS];
        private final int[] pitches = new int[MOST_TURNS];
        private final int[] owners = new int[MOST_TURNS];
        private final int[] termCounts = new int[MOST_TURNS];
        private final int[] terms = new int[MOST_TURNS * MOST_TERMS_OF_TURN];
        private int size;

        void takeFrom(Turns other) {
            System.arraycopy(other.begins, 0, begins, 0, MOST_TURNS);
            System.arraycopy(other.ends, 0, ends, 0, MOST_TURNS);
            System.arraycopy(other.pitches, 0, pitches, 0, MOST_TURNS);
            System.arraycopy(other.owners, 0, owners, 0, MOST_TURNS);
            System.arraycopy(other.termCounts, 0, termCounts, 0, MOST_TURNS);
            System.arraycopy(other.terms, 0, terms, 0, MOST_TURNS * MOST_TERMS_OF_TURN);
            size = other.size;
        }

        int size() {
            return size;
        }

        boolean isFull() {
            return size >= MOST_TURNS;
        }

        boolean has(int place) {
            return place >= 0 && place < size && place < MOST_TURNS;
        }

        int beginOf(int place) {
            return has(place) ? begins[place] : 0;
        }

        int endOf(int place) {
            return has(place) ? ends[place] : 0;
        }

        int pitchOf(int place) {
            return has(place) ? pitches[place] : 0;
        }

        int ownerOf(int place) {
            return has(place) ? owners[place] : NONE;
        }

        int termCountOf(int place) {
            return has(place) ? termCounts[place] : 0;
        }

        int toldTerm(int place, int index) {
            return has(place) && index >= 0 && index < termCounts[place] && index < MOST_TERMS_OF_TURN
                    ? terms[place * MOST_TERMS_OF_TURN + index] : NONE;
        }

        /** Puts a turn behind all that begin as early, and answers its place. */
        int insert(int begin, int end, int pitch, int owner) {
            if (isFull()) {
                return NONE;
            }
            int place = placeFor(begin);
            moveRows(place, place + 1);
            size++;
            begins[place] = begin;
            ends[place] = end;
            pitches[place] = pitch;
            owners[place] = owner;
            termCounts[place] = 0;
            return place;
        }

        void delete(int place) {
            if (has(place)) {
                moveRows(place + 1, place);
                size--;
            }
        }

        private int placeFor(int begin) {
            int place = 0;
            while (place < size && place < MOST_TURNS - 1 && begins[place] <= begin) {
                place++;
            }
            return place;
        }

        private void moveRows(int from, int to) {
            int moved = size - from;
            if (from < 0 || to < 0 || moved < 0 || from + moved > MOST_TURNS || to + moved > MOST_TURNS) {
                return;
            }
            System.arraycopy(begins, from, begins, to, moved);
            System.arraycopy(ends, from, ends, to, moved);
            System.arraycopy(pitches, from, pitches, to, moved);
            System.arraycopy(owners, from, owners, to, moved);
            System.arraycopy(termCounts, from, termCounts, to, moved);
            System.arraycopy(terms, from * MOST_TERMS_OF_TURN, terms, to * MOST_TERMS_OF_TURN,
                    moved * MOST_TERMS_OF_TURN);
        }

        void endAt(int place, int time) {
            if (has(place)) {
                ends[place] = time;
            }
        }

        void own(int place, int owner) {
            if (has(place)) {
                owners[place] = owner;
            }
        }

        boolean isFullOfTerms(int place) {
            return termCountOf(place) >= MOST_TERMS_OF_TURN;
        }

        void appendTerm(int place, int term) {
            if (has(place) && isWithin(termCounts[place], 0, MOST_TERMS_OF_TURN - 1)) {
                terms[place * MOST_TERMS_OF_TURN + termCounts[place]] = term;
                termCounts[place]++;
            }
        }

        /** Takes the terms from an index on off one turn and puts them at the end of another one. */
        void passTerms(int place, int index, int taker) {
            int told = termCountOf(place);
            if (!has(place) || !isWithin(index, 0, told)) {
                return;
            }
            for (int i = index; i < told; i++) {
                appendTerm(taker, toldTerm(place, i));
            }
            termCounts[place] = index;
        }

        void passTurns(int owner, int taker) {
            for (int i = 0; i < size && i < MOST_TURNS; i++) {
                if (owners[i] == owner) {
                    owners[i] = taker;
                }
            }
        }

        int placesInAll() {
            int sum = 0;
            for (int i = 0; i < size; i++) {
                sum += termCountOf(i);
            }
            return sum;
        }

        int turnsOf(int owner) {
            int number = 0;
            for (int i = 0; i < size && i < MOST_TURNS; i++) {
                if (owners[i] == owner) {
                    number++;
                }
            }
            return number;
        }

        /** The mean of the pitches of all turns of an owner, or the other pitch if there are none. */
        int meanPitchOf(int owner, int otherwise) {
            int number = turnsOf(owner);
            return number > 0 ? sumOf(pitches, owner) / number : otherwise;
        }

        int secondsOfAll(int owner) {
            return sumOf(ends, owner) - sumOf(begins, owner);
        }

        int termsOfAll(int owner) {
            return sumOf(termCounts, owner);
        }

        private int sumOf(int[] row, int owner) {
            int sum = 0;
            for (int i = 0; i < size && i < MOST_TURNS && i < row.length; i++) {
                if (owners[i] == owner) {
                    sum += row[i];
                }
            }
            return sum;
        }

        int timesTold(int term) {
            int times = 0;
            for (int i = 0; i < size && i < MOST_TURNS; i++) {
                for (int k = 0; k < termCounts[i] && k < MOST_TERMS_OF_TURN; k++) {
                    if (terms[i * MOST_TERMS_OF_TURN + k] == term) {
                        times++;
                    }
                }
            }
            return times;
        }

        boolean overlap(int place, int other) {
            return place != other && beginOf(place) < endOf(other) && beginOf(other) < endOf(place);
        }

        boolean interrupt(int place, int other) {
            return beginOf(place) > beginOf(other) && beginOf(place) < endOf(other)
                    && ownerOf(place) != NONE && ownerOf(other) != NONE && ownerOf(place) != ownerOf(other);
        }

        boolean goesOn(int place, int time) {
            return beginOf(place) <= time && time < endOf(place);
        }

        int overlapping(int place) {
            int found = 0;
            for (int i = 0; i < size; i++) {
                if (overlap(place, i)) {
                    found |= 1 << i;
                }
            }
            return found;
        }

        int interruptedBy(int place) {
            int found = 0;
            for (int i = 0; i < size; i++) {
                if (interrupt(place, i)) {
                    found |= 1 << i;
                }
            }
            return found;
        }

        int goingOn(int time) {
            int found = 0;
            for (int i = 0; i < size; i++) {
                if (goesOn(i, time)) {
                    found |= 1 << i;
                }
            }
            return found;
        }

        int speakingAt(int time) {
            int found = 0;
            for (int i = 0; i < size; i++) {
                if (goesOn(i, time) && ownerOf(i) != NONE) {
                    found |= 1 << ownerOf(i);
                }
            }
            return found;
        }

        int overlappingPairs() {
            int pairs = 0;
            for (int i = 0; i < size; i++) {
                for (int j = 0; j < i; j++) {
                    if (overlap(i, j)) {
                        pairs++;
                    }
                }
            }
            return pairs;
        }

        int interruptions(int owner, int interrupted) {
            int number = 0;
            for (int i = 0; i < size; i++) {
                for (int j = 0; j < size; j++) {
                    if (ownerOf(i) == owner && ownerOf(j) == interrupted && interrupt(i, j)) {
                        number++;
                    }
                }
            }
            return number;
        }

        /** Goes through the other turns by their begins, and adds what is left free between them. */
        int secondsAlone(int place) {
            int covered = beginOf(place);
            int alone = 0;
            for (int i = 0; i < size; i++) {
                if (i != place) {
                    alone += Math.max(0, Math.min(beginOf(i), endOf(place)) - covered);
                    covered = Math.max(covered, endOf(i));
                }
            }
            return alone + Math.max(0, endOf(place) - covered);
        }

        int secondsWithAny() {
            int covered = 0;
            int seconds = 0;
            for (int i = 0; i < size; i++) {
                seconds += Math.max(0, endOf(i) - Math.max(covered, beginOf(i)));
                covered = Math.max(covered, endOf(i));
            }
            return seconds;
        }

        /** A turn is doubled from its begin on until the turns ahead of it have all ended. */
        int secondsWithSeveral() {
            int covered = 0;
            int doubled = 0;
            int seconds = 0;
            for (int i = 0; i < size; i++) {
                int until = Math.min(endOf(i), covered);
                seconds += Math.max(0, until - Math.max(doubled, beginOf(i)));
                doubled = Math.max(doubled, until);
                covered = Math.max(covered, endOf(i));
            }
            return seconds;
        }

        /** What: 0 for the first second of the longest silence, 1 for its length, which is 0 if there is none. */
        int longestSilence(int what) {
            int covered = beginOf(0);
            int first = 0;
            int longest = 0;
            for (int i = 0; i < size; i++) {
                if (beginOf(i) - covered > longest) {
                    longest = beginOf(i) - covered;
                    first = covered;
                }
                covered = Math.max(covered, endOf(i));
            }
            return what == 0 ? first : longest;
        }
    }

    /** What each term is corrected to. */
    private static final class Corrections {
        private final int[] targets = new int[TERMS];

        Corrections() {
            Arrays.fill(targets, NONE);
        }

        void takeFrom(Corrections other) {
            System.arraycopy(other.targets, 0, targets, 0, TERMS);
        }

        static boolean isTerm(int term) {
            return isWithin(term, 0, TERMS - 1);
        }

        int targetOf(int term) {
            return isCorrected(term) ? targets[term] : NONE;
        }

        boolean isCorrected(int term) {
            return term >= 0 && term < TERMS && targets[term] != NONE;
        }

        void put(int term, int to) {
            if (isTerm(term)) {
                targets[term] = to;
            }
        }

        int shown(int term) {
            int last = term;
            for (int step = 0; step < TERMS && isCorrected(last); step++) {
                last = targets[last];
            }
            return last;
        }

        int chainOf(int term) {
            int last = term;
            int steps = 0;
            while (steps < TERMS && isCorrected(last)) {
                last = targets[last];
                steps++;
            }
            return steps;
        }

        boolean leadsTo(int term, int goal) {
            int last = term;
            for (int step = 0; step < TERMS && last != goal && isCorrected(last); step++) {
                last = targets[last];
            }
            return last == goal;
        }

        /** The error why a term can't be corrected to another one, or NO_ERROR. */
        int errorOf(int term, int to) {
            if (!isTerm(term) || !isTerm(to) || term == to) {
                return INVALID_ARGUMENT;
            }
            return leadsTo(to, term) ? NOT_POSSIBLE : NO_ERROR;
        }

        int shownAs(int term) {
            int found = 0;
            for (int i = 0; i < TERMS; i++) {
                if (shown(i) == term) {
                    found |= 1 << i;
                }
            }
            return found;
        }

        int size() {
            int number = 0;
            for (int i = 0; i < TERMS; i++) {
                if (isCorrected(i)) {
                    number++;
                }
            }
            return number;
        }
    }

    /** The pitches of the speakers; 0 where a number is free. */
    private static final class Speakers {
        private final int[] pitches = new int[MOST_SPEAKERS];

        void takeFrom(Speakers other) {
            System.arraycopy(other.pitches, 0, pitches, 0, MOST_SPEAKERS);
        }

        boolean has(int speaker) {
            return speaker >= 0 && speaker < MOST_SPEAKERS && pitches[speaker] != 0;
        }

        int pitchOf(int speaker) {
            return has(speaker) ? pitches[speaker] : 0;
        }

        void tune(int speaker, int pitch) {
            if (isWithin(speaker, 0, MOST_SPEAKERS - 1)) {
                pitches[speaker] = pitch;
            }
        }

        void free(int speaker) {
            tune(speaker, 0);
        }

        int lowestFree() {
            for (int i = 0; i < MOST_SPEAKERS; i++) {
                if (!has(i)) {
                    return i;
                }
            }
            return NONE;
        }

        int closestTo(int pitch, int away) {
            int closest = NONE;
            int least = away + 1;
            for (int i = 0; i < MOST_SPEAKERS; i++) {
                if (has(i) && Math.abs(pitches[i] - pitch) < least) {
                    closest = i;
                    least = Math.abs(pitches[i] - pitch);
                }
            }
            return closest;
        }

        int asSet() {
            int found = 0;
            for (int i = 0; i < MOST_SPEAKERS; i++) {
                if (has(i)) {
                    found |= 1 << i;
                }
            }
            return found;
        }
    }

    /** One state of everything but the text, and the changes to it; one that answers an error changes nothing. */
    private static final class Transcript {
        private final Turns turns = new Turns();
        private final Corrections corrections = new Corrections();
        private final Speakers speakers = new Speakers();
        private int away = FIRST_AWAY;

        void takeFrom(Transcript other) {
            turns.takeFrom(other.turns);
            corrections.takeFrom(other.corrections);
            speakers.takeFrom(other.speakers);
            away = other.away;
        }

        int addTurn(int begin, int end, int pitch) {
            if (begin < 0 || end <= begin || end > LAST_TIME || !isPitch(pitch)) {
                return INVALID_ARGUMENT;
            }
            if (turns.isFull()) {
                return LIMIT_REACHED;
            }
            return turns.insert(begin, end, pitch, closestSpeaker(pitch));
        }

        int addTerm(int place, int term) {
            if (!turns.has(place) || !Corrections.isTerm(term)) {
                return INVALID_ARGUMENT;
            }
            if (turns.isFullOfTerms(place)) {
                return LIMIT_REACHED;
            }
            turns.appendTerm(place, term);
            return turns.termCountOf(place);
        }

        int partTurn(int place, int time, int index) {
            if (!turns.has(place) || time <= turns.beginOf(place) || time >= turns.endOf(place)
                    || !isWithin(index, 0, turns.termCountOf(place))) {
                return INVALID_ARGUMENT;
            }
            if (turns.isFull()) {
                return LIMIT_REACHED;
            }
            // The new turn begins later than the old one, so that the old one keeps its place.
            int made = turns.insert(time, turns.endOf(place), turns.pitchOf(place), turns.ownerOf(place));
            turns.passTerms(place, index, made);
            turns.endAt(place, time);
            return made;
        }

        int dropTurn(int place) {
            if (!turns.has(place)) {
                return INVALID_ARGUMENT;
            }
            turns.delete(place);
            return turns.size();
        }

        int addCorrection(int term, int to) {
            int error = corrections.errorOf(term, to);
            if (error != NO_ERROR) {
                return error;
            }
            int answer = placesReshown(term, corrections.shown(to));
            corrections.put(term, to);
            return answer;
        }

        int dropCorrection(int term) {
            if (!Corrections.isTerm(term)) {
                return INVALID_ARGUMENT;
            }
            if (!corrections.isCorrected(term)) {
                return NOT_POSSIBLE;
            }
            int answer = placesReshown(term, term);
            corrections.put(term, NONE);
            return answer;
        }

        int addSpeaker(int pitch) {
            if (!isPitch(pitch)) {
                return INVALID_ARGUMENT;
            }
            int speaker = speakers.lowestFree();
            if (speaker == NONE) {
                return LIMIT_REACHED;
            }
            speakers.tune(speaker, pitch);
            return speaker;
        }

        int giveTurn(int place, int speaker) {
            if (!turns.has(place) || !speakers.has(speaker)) {
                return INVALID_ARGUMENT;
            }
            if (turns.ownerOf(place) == speaker) {
                return NOT_POSSIBLE;
            }
            turns.own(place, speaker);
            int pitch = turns.meanPitchOf(speaker, speakers.pitchOf(speaker));
            speakers.tune(speaker, pitch);
            return pitch;
        }

        int joinSpeakers(int speaker, int into) {
            if (!speakers.has(speaker) || !speakers.has(into) || speaker == into) {
                return INVALID_ARGUMENT;
            }
            turns.passTurns(speaker, into);
            speakers.free(speaker);
            speakers.tune(into, turns.meanPitchOf(into, speakers.pitchOf(into)));
            return turns.turnsOf(into);
        }

        int changeSetting(int what, int value) {
            if (what != 0 || !isWithin(value, 0, MOST_AWAY)) {
                return INVALID_ARGUMENT;
            }
            int old = away;
            away = value;
            return old;
        }

        int setting() {
            return away;
        }

        int closestSpeaker(int pitch) {
            return speakers.closestTo(pitch, away);
        }

        /**
         * How many places are shown as another term when one term is shown anew: those of all terms whose chains
         * lead to it, as these are shown as it is, before and then.
         */
        int placesReshown(int term, int then) {
            if (corrections.shown(term) == then) {
                return 0;
            }
            int places = 0;
            for (int i = 0; i < TERMS; i++) {
                if (corrections.leadsTo(i, term)) {
                    places += turns.timesTold(i);
                }
            }
            return places;
        }

        static boolean isPitch(int pitch) {
            return isWithin(pitch, LOWEST_PITCH, HIGHEST_PITCH);
        }
    }

    /** The answers to the questions about a transcript. */
    private static final class Survey {
        private static final int EXPONENT_OF_ONE = 127;
        private static final int LARGEST_EXPONENT = 254;
        private static final int BITS_OF_FRACTION = 23;

        private final Transcript transcript;
        private final Turns turns;
        private final Corrections corrections;
        private final Speakers speakers;
        private final int[] shownSets = new int[MOST_TURNS];

        Survey(Transcript transcript) {
            this.transcript = transcript;
            turns = transcript.turns;
            corrections = transcript.corrections;
            speakers = transcript.speakers;
        }

        int ofTurn(int place, int what) {
            if (!turns.has(place)) {
                return INVALID_ARGUMENT;
            }
            switch (what) {
                case 0:
                    return turns.beginOf(place);
                case 1:
                    return turns.endOf(place);
                case 2:
                    return turns.pitchOf(place);
                case 3:
                    return orNotFound(turns.ownerOf(place));
                case 4:
                    return turns.termCountOf(place);
                case 5:
                    return turns.overlapping(place);
                case 6:
                    return turns.interruptedBy(place);
                case 7:
                    return turns.secondsAlone(place);
                default:
                    return INVALID_ARGUMENT;
            }
        }

        int ofPlace(int place, int index, int what) {
            if (!turns.has(place) || index < 0 || !isWithin(what, 0, 1)) {
                return INVALID_ARGUMENT;
            }
            if (index >= turns.termCountOf(place)) {
                return NOT_FOUND;
            }
            int told = turns.toldTerm(place, index);
            return what == 0 ? told : corrections.shown(told);
        }

        int ofTerm(int term, int what) {
            if (!Corrections.isTerm(term)) {
                return INVALID_ARGUMENT;
            }
            switch (what) {
                case 0:
                    return orNotFound(corrections.targetOf(term));
                case 1:
                    return corrections.shown(term);
                case 2:
                    return corrections.chainOf(term);
                case 3:
                    return placesShowing(term);
                case 4:
                    return turnsShowing(term);
                case 5:
                    return speakersShowing(term);
                case 6:
                    return corrections.shownAs(term);
                default:
                    return INVALID_ARGUMENT;
            }
        }

        int ofSpeaker(int speaker, int what) {
            if (!speakers.has(speaker)) {
                return INVALID_ARGUMENT;
            }
            switch (what) {
                case 0:
                    return speakers.pitchOf(speaker);
                case 1:
                    return turns.turnsOf(speaker);
                case 2:
                    return turns.secondsOfAll(speaker);
                case 3:
                    return termsShownBy(speaker);
                case 4:
                    return interruptionsBy(speaker);
                case 5:
                    return interruptionsOf(speaker);
                case 6:
                    return bitsOfTermsByMinute(speaker);
                default:
                    return INVALID_ARGUMENT;
            }
        }

        int ofSecond(int time, int what) {
            if (!isWithin(time, 0, LAST_TIME) || !isWithin(what, 0, 1)) {
                return INVALID_ARGUMENT;
            }
            return what == 0 ? turns.goingOn(time) : turns.speakingAt(time);
        }

        int ofInterruptions(int speaker, int other) {
            if (!speakers.has(speaker) || !speakers.has(other) || speaker == other) {
                return INVALID_ARGUMENT;
            }
            return turns.interruptions(speaker, other);
        }

        int ofPitch(int pitch) {
            if (!Transcript.isPitch(pitch)) {
                return INVALID_ARGUMENT;
            }
            return orNotFound(transcript.closestSpeaker(pitch));
        }

        int ofCorrection(int term, int to) {
            int error = corrections.errorOf(term, to);
            return error != NO_ERROR ? error : transcript.placesReshown(term, corrections.shown(to));
        }

        int ofPairs(int what) {
            if (!isWithin(what, 0, 2)) {
                return INVALID_ARGUMENT;
            }
            noteShownSets();
            int bestLower = 0;
            int bestHigher = 0;
            int most = 0;
            for (int lower = 0; lower < TERMS; lower++) {
                for (int higher = lower + 1; higher < TERMS; higher++) {
                    int number = turnsWithBoth(lower, higher);
                    if (number > most) {
                        bestLower = lower;
                        bestHigher = higher;
                        most = number;
                    }
                }
            }
            if (most == 0) {
                return NOT_FOUND;
            }
            switch (what) {
                case 0:
                    return bestLower;
                case 1:
                    return bestHigher;
                default:
                    return most;
            }
        }

        int ofSilence(int what) {
            if (!isWithin(what, 0, 1)) {
                return INVALID_ARGUMENT;
            }
            if (turns.longestSilence(1) == 0) {
                return NOT_FOUND;
            }
            return turns.longestSilence(what);
        }

        int ofDoubt(int what) {
            if (!isWithin(what, 0, 1)) {
                return INVALID_ARGUMENT;
            }
            int farthest = NONE;
            int most = NONE;
            for (int i = 0; i < turns.size(); i++) {
                int owner = turns.ownerOf(i);
                int distance = Math.abs(turns.pitchOf(i) - speakers.pitchOf(owner));
                if (owner != NONE && distance > most) {
                    farthest = i;
                    most = distance;
                }
            }
            return orNotFound(what == 0 ? farthest : most);
        }

        int ofAll(int what) {
            switch (what) {
                case 0:
                    return turns.size();
                case 1:
                    return Integer.bitCount(speakers.asSet());
                case 2:
                    return turns.placesInAll();
                case 3:
                    return corrections.size();
                case 4:
                    return turns.turnsOf(NONE);
                case 5:
                    return turns.overlappingPairs();
                case 6:
                    return turns.secondsWithAny();
                case 7:
                    return turns.secondsWithSeveral();
                case 10:
                    return speakers.asSet();
                case 20:
                    return transcript.setting();
                default:
                    return INVALID_ARGUMENT;
            }
        }

        private static int orNotFound(int value) {
            return value == NONE ? NOT_FOUND : value;
        }

        private int shownIn(int place) {
            int found = 0;
            for (int k = 0; k < turns.termCountOf(place); k++) {
                found |= 1 << corrections.shown(turns.toldTerm(place, k));
            }
            return found;
        }

        private boolean isShownIn(int place, int term) {
            return (shownIn(place) >> term & 1) == 1;
        }

        private int placesShowing(int term) {
            int places = 0;
            for (int i = 0; i < TERMS; i++) {
                if (corrections.shown(i) == term) {
                    places += turns.timesTold(i);
                }
            }
            return places;
        }

        private int turnsShowing(int term) {
            int found = 0;
            for (int i = 0; i < turns.size(); i++) {
                if (isShownIn(i, term)) {
                    found |= 1 << i;
                }
            }
            return found;
        }

        private int speakersShowing(int term) {
            int found = 0;
            for (int i = 0; i < turns.size(); i++) {
                if (turns.ownerOf(i) != NONE && isShownIn(i, term)) {
                    found |= 1 << turns.ownerOf(i);
                }
            }
            return found;
        }

        private int termsShownBy(int speaker) {
            int found = 0;
            for (int i = 0; i < turns.size(); i++) {
                if (turns.ownerOf(i) == speaker) {
                    found |= shownIn(i);
                }
            }
            return found;
        }

        private int interruptionsBy(int speaker) {
            int number = 0;
            for (int other = 0; other < MOST_SPEAKERS; other++) {
                number += turns.interruptions(speaker, other);
            }
            return number;
        }

        private int interruptionsOf(int speaker) {
            int number = 0;
            for (int other = 0; other < MOST_SPEAKERS; other++) {
                number += turns.interruptions(other, speaker);
            }
            return number;
        }

        private int bitsOfTermsByMinute(int speaker) {
            int seconds = turns.secondsOfAll(speaker);
            if (seconds <= 0) {
                return NOT_FOUND;
            }
            return bitsOf((float) turns.termsOfAll(speaker) * 60f / (float) seconds);
        }

        /** By hand, as the language has no call for it; the rates are 0 or far inside the normal floats. */
        private static int bitsOf(float rate) {
            if (rate <= 0f) {
                return 0;
            }
            float fraction = rate;
            int exponent = EXPONENT_OF_ONE;
            while (exponent < LARGEST_EXPONENT && fraction >= 2f) {
                fraction = fraction / 2f;
                exponent++;
            }
            while (exponent > 1 && fraction < 1f) {
                fraction = fraction * 2f;
                exponent--;
            }
            return (exponent << BITS_OF_FRACTION) + (int) ((fraction - 1f) * (float) (1 << BITS_OF_FRACTION));
        }

        private void noteShownSets() {
            for (int i = 0; i < turns.size() && i < MOST_TURNS; i++) {
                shownSets[i] = shownIn(i);
            }
        }

        private int turnsWithBoth(int lower, int higher) {
            int both = 1 << lower | 1 << higher;
            int number = 0;
            for (int i = 0; i < turns.size() && i < MOST_TURNS; i++) {
                if ((shownSets[i] & both) == both) {
                    number++;
                }
            }
            return number;
        }
    }

    /** The latest states, in a ring, so that the oldest one makes room for a new one. */
    private static final class History {
        private final Transcript[] states = new Transcript[MOST_STATES];
        private int oldest;
        private int size;

        History() {
            for (int i = 0; i < MOST_STATES; i++) {
                states[i] = new Transcript();
            }
        }

        int size() {
            return size;
        }

        boolean isEmpty() {
            return size == 0;
        }

        void keep(Transcript state) {
            copy(state, stateAt(size));
            if (size < MOST_STATES) {
                size++;
            } else {
                oldest = (oldest + 1) % MOST_STATES;
            }
        }

        int restoreLatest(Transcript into) {
            if (size > 0) {
                size--;
                copy(stateAt(size), into);
            }
            return size;
        }

        private Transcript stateAt(int age) {
            return states[Math.floorMod(oldest + age, MOST_STATES)];
        }

        private static void copy(Transcript from, Transcript into) {
            if (from != null && into != null) {
                into.takeFrom(from);
            }
        }
    }

    /** The characters that were typed. */
    private static final class Text {
        private final int[] characters = new int[MOST_CHARACTERS];
        private int length;

        int length() {
            return length;
        }

        boolean isFull() {
            return length >= MOST_CHARACTERS;
        }

        int append(int character) {
            if (isWithin(length, 0, MOST_CHARACTERS - 1)) {
                characters[length] = character;
                length++;
            }
            return length;
        }

        int empty() {
            int old = length;
            length = 0;
            return old;
        }

        int characterAt(int position) {
            return position >= 0 && position < length && position < MOST_CHARACTERS ? characters[position] : NONE;
        }
    }

    /** One order of the text: its letter and its numbers, as far as it is of the form. */
    private static final class Order {
        private final int[] numbers = new int[MOST_NUMBERS];
        private int letter;
        private int length;
        private boolean whole;

        void readFrom(Text text, int start) {
            letter = text.characterAt(start);
            length = 0;
            whole = false;
            int wanted = numbersOf(letter);
            if (wanted == 0) {
                return;
            }
            length = 1;
            for (int k = 0; k < wanted; k++) {
                int sign = k < wanted - 1 ? ',' : ';';
                if (!readNumber(text, start, k) || text.characterAt(start + length) != sign) {
                    return;
                }
                length++;
            }
            whole = true;
        }

        private boolean readNumber(Text text, int start, int index) {
            int value = 0;
            int digits = 0;
            while (digits < MOST_DIGITS && isWithin(text.characterAt(start + length), '0', '9')) {
                value = value * 10 + text.characterAt(start + length) - '0';
                length++;
                digits++;
            }
            if (isWithin(index, 0, MOST_NUMBERS - 1)) {
                numbers[index] = value;
            }
            return digits > 0;
        }

        private static int numbersOf(int letter) {
            switch (letter) {
                case 't':
                    return 3;
                case 'w':
                case 'c':
                case 'g':
                    return 2;
                case 's':
                    return 1;
                default:
                    return 0;
            }
        }

        boolean isWhole() {
            return whole;
        }

        /** The characters of a whole order, or those ahead of the one at which it breaks off. */
        int length() {
            return length;
        }

        int doOn(Transcript transcript) {
            switch (letter) {
                case 't':
                    return transcript.addTurn(numbers[0], numbers[1], numbers[2]);
                case 'w':
                    return transcript.addTerm(numbers[0], numbers[1]);
                case 'c':
                    return transcript.addCorrection(numbers[0], numbers[1]);
                case 'g':
                    return transcript.giveTurn(numbers[0], numbers[1]);
                case 's':
                    return transcript.addSpeaker(numbers[0]);
                default:
                    return INVALID_ARGUMENT;
            }
        }
    }

    /** Does the orders of the text on a copy of a transcript, up to the first one that is not possible. */
    private static final class Review {
        private final Text text;
        private final Transcript outcome = new Transcript();
        private final Order order = new Order();
        private int position;
        private int ordersDone;
        private int reason;
        private int cause;

        Review(Text text) {
            this.text = text;
        }

        void run(Transcript start) {
            outcome.takeFrom(start);
            position = 0;
            ordersDone = 0;
            reason = NO_FAULT;
            cause = 0;
            while (ordersDone < MOST_CHARACTERS && position < text.length() && reason == NO_FAULT) {
                order.readFrom(text, position);
                noteAnswer(order.isWhole() ? order.doOn(outcome) : NONE);
            }
        }

        private void noteAnswer(int answer) {
            if (!order.isWhole()) {
                reason = NOT_OF_THE_FORM;
                cause = order.length();
            } else if (answer < 0) {
                reason = REFUSED;
                cause = answer;
            } else {
                position += order.length();
                ordersDone++;
            }
        }

        boolean foundFault() {
            return reason != NO_FAULT;
        }

        int position() {
            return position;
        }

        int reason() {
            return reason;
        }

        int cause() {
            return cause;
        }

        int ordersDone() {
            return ordersDone;
        }

        Transcript outcome() {
            return outcome;
        }
    }
}

import java.util.function.Supplier;

/** The boundary cases that the document names for speakers: "Speakers", "Settings", promises 8-11, 15, 17, 18, 22. */
public final class EdgesOfSpeakersTest {
    private static final Check CHECK = new Check();

    public static void main(String[] args) {
        aPitchOfASpeakerFrom50To500();
        sixSpeakers();
        theLowestNumberThatIsFree();
        turnsThatThereAreStay();
        giveATurnThatThereIs();
        giveToASpeakerThatThereIs();
        giveATurnThatIsTheirsAlready();
        giveATurnOfNoSpeaker();
        theMeanIsRoundedDown();
        theMeanOfOneTurnAndOfTwenty();
        otherPitchesOfSpeakersStay();
        joinSpeakersThatThereAre();
        joinTwoThatAreUnlike();
        joinWithoutAnyTurn();
        joinWithTurnsOfOneOfThem();
        theFormerIsGone();
        joinAllTurns();
        aSettingThatThereIs();
        aSettingFrom0To200();
        nearestOfAPitchFrom50To500();
        nearestWithoutAny();
        atMostTheSettingAway();
        ofSeveralTheLowest();
        nearestOfTheOutermostPitches();
        somethingOfASpeakerThatThereIs();
        somethingThatASpeakerHas();
        aSpeakerWithoutTurns();
        aSpeakerOfAllTurns();
        theRateIsRoundedAsAFloat();
        interruptionsBeginInsideTheOtherTurn();
        interruptionsOfKnownSpeakers();
        interruptsOfTwoSpeakersThatThereAre();
        interruptsFromNoneToAll();
        doubtfulTellsWhatThereIs();
        doubtfulWithoutAny();
        doubtfulFrom0Away();
        doubtfulOfSeveral();
        CHECK.end();
    }

    private static Supplier<LectureTurns> speakers(int... pitches) {
        return () -> {
            LectureTurns x = new LectureTurns();
            for (int pitch : pitches) {
                x.speaker(pitch);
            }
            return x;
        };
    }

    /** "pitch: 50 to 500" */
    private static void aPitchOfASpeakerFrom50To500() {
        LectureTurns x = new LectureTurns();
        CHECK.due("pitch 50", 0, x.speaker(50));
        CHECK.due("pitch 500", 1, x.speaker(500));
        CHECK.due("it is 50", 50, x.speakerOf(0, 0));
        CHECK.due("it is 500", 500, x.speakerOf(1, 0));
        CHECK.outside("speaker's pitch", 50, 500, States::some, LectureTurns::speaker);
        CHECK.outside("speaker's pitch, the first one", 50, 500, States::empty, LectureTurns::speaker);
    }

    /** "at most 6 speakers, numbered 0 to 5"; "LIMIT_REACHED if there are 6", and INVALID_ARGUMENT rather. */
    private static void sixSpeakers() {
        LectureTurns x = new LectureTurns();
        CHECK.due("none at first", 0, x.count(1));
        CHECK.due("no bits at first", 0, x.count(10));
        for (int k = 0; k < 6; k++) {
            CHECK.due("not there yet: " + k, Check.INVALID, x.speakerOf(k, 0));
            CHECK.due("speaker " + k, k, x.speaker(100));
            CHECK.due("speakers", k + 1, x.count(1));
            CHECK.due("their bits", (2 << k) - 1, x.count(10));
        }
        Supplier<LectureTurns> six = speakers(100, 100, 100, 100, 100, 100);
        CHECK.refused("the seventh", Check.LIMIT, six, y -> y.speaker(100));
        CHECK.refused("the seventh, full", Check.LIMIT, States::full, y -> y.speaker(500));
        CHECK.outside("the seventh's pitch", 50, 500, six, LectureTurns::speaker);
    }

    /** "a new one gets the lowest number that is free", whichever that is. */
    private static void theLowestNumberThatIsFree() {
        int[] turnsOfBoth = {8, 7, 6, 6, 6, 7};
        for (int k = 0; k < 6; k++) {
            LectureTurns x = States.full();
            CHECK.due("turns of both", turnsOfBoth[k], x.join(k, (k + 1) % 6));
            CHECK.due("without " + k, 0x3F & ~Check.set(k), x.count(10));
            CHECK.due("the free one", k, x.speaker(77));
            CHECK.due("its pitch", 77, x.speakerOf(k, 0));
            CHECK.due("its turns", 0, x.speakerOf(k, 1));
            CHECK.due("all are there", Check.LIMIT, x.speaker(77));
        }
        LectureTurns x = speakers(100, 100, 100, 100, 100, 100).get();
        x.join(5, 2);
        x.join(0, 2);
        x.join(3, 2);
        int[] free = {0, 3, 5, Check.LIMIT};
        for (int due : free) {
            CHECK.due("one free number behind another", due, x.speaker(100));
        }
    }

    /** "turns that there are stay as they are" */
    private static void turnsThatThereAreStay() {
        LectureTurns x = States.some();
        x.speaker(400);
        x.speaker(110);
        int[] due = {0, 1, 0, Check.NOT_FOUND};
        for (int i = 0; i < 4; i++) {
            CHECK.due("speaker of turn " + i, due[i], x.turnOf(i, 3));
        }
    }

    /** "place: place of the turn" */
    private static void giveATurnThatThereIs() {
        CHECK.due("the first place", 152, States.some().give(0, 1));
        CHECK.due("the last place", 297, States.some().give(3, 1));
        CHECK.outside("give's place", 0, 3, States::some, (x, place) -> x.give(place, 1));
        CHECK.refused("no turn at all", Check.INVALID, speakers(100), x -> x.give(0, 0));
        CHECK.refused("nothing at all", Check.INVALID, States::empty, x -> x.give(0, 0));
    }

    /** "speaker: number of the speaker"; "no speaker with a certain number, this is INVALID_ARGUMENT" */
    private static void giveToASpeakerThatThereIs() {
        CHECK.due("the lowest number", 200, States.some().give(3, 0));
        CHECK.due("the highest number", 297, States.some().give(3, 1));
        CHECK.outside("give's speaker", 0, 1, States::some, (x, speaker) -> x.give(3, speaker));
        CHECK.due("speaker 5 of 6", (50 + 500 * 3) / 4, States.full().give(0, 5));
        CHECK.outside("give's speaker of 6", 0, 5, States::full, (x, speaker) -> x.give(19, speaker));
        CHECK.refused("no speaker at all", Check.INVALID, States.turns(1), x -> x.give(0, 0));
        CHECK.refused("one that is gone", Check.INVALID, States.after(States::some, x -> x.join(0, 1)),
                x -> x.give(3, 0));
    }

    /** "NOT_POSSIBLE if it is already", and INVALID_ARGUMENT rather. */
    private static void giveATurnThatIsTheirsAlready() {
        CHECK.refused("the first turn", Check.NOT_POSSIBLE, States::some, x -> x.give(0, 0));
        CHECK.refused("the third turn", Check.NOT_POSSIBLE, States::some, x -> x.give(2, 0));
        CHECK.refused("the turn of 1", Check.NOT_POSSIBLE, States::some, x -> x.give(1, 1));
        CHECK.refused("the last one of 20", Check.NOT_POSSIBLE, States::full, x -> x.give(19, 1));
        CHECK.refused("a second time", Check.NOT_POSSIBLE, States.after(States::some, x -> x.give(3, 1)),
                x -> x.give(3, 1));
    }

    /** A turn without a speaker is nobody's already: no number of a speaker stands for none. */
    private static void giveATurnOfNoSpeaker() {
        CHECK.due("to 0", 200, States.some().give(3, 0));
        for (int speaker : new int[] {-1, 6, 7, LectureTurns.NOT_FOUND, 255}) {
            CHECK.refused("to " + speaker, Check.INVALID, States::some, x -> x.give(3, speaker));
        }
    }

    /** "the mean of the pitches of all turns of the speaker (with this one)"; "All divisions are rounded down." */
    private static void theMeanIsRoundedDown() {
        LectureTurns x = new LectureTurns();
        x.turn(0, 1, 50);
        x.turn(1, 2, 51);
        x.turn(2, 3, 54);
        x.turn(3, 4, 50);
        x.speaker(500);
        CHECK.due("50 / 1", 50, x.give(0, 0));
        CHECK.due("101 / 2", 50, x.give(1, 0));
        CHECK.due("155 / 3", 51, x.give(2, 0));
        CHECK.due("205 / 4", 51, x.give(3, 0));
        CHECK.due("it is the pitch", 51, x.speakerOf(0, 0));
    }

    /** The outermost means: of one turn, and of twenty of the lowest or the highest pitch. */
    private static void theMeanOfOneTurnAndOfTwenty() {
        for (int pitch : new int[] {50, 500}) {
            LectureTurns x = new LectureTurns();
            for (int i = 0; i < 20; i++) {
                x.turn(i, i + 1, pitch);
            }
            x.speaker(300);
            for (int i = 0; i < 20; i++) {
                CHECK.due("mean of " + (i + 1), pitch, x.give(i, 0));
            }
            CHECK.due("turns", 20, x.speakerOf(0, 1));
            CHECK.due("turns without a speaker", 0, x.count(4));
        }
    }

    /** "other pitches of speakers stay", also that of the one who loses the turn. */
    private static void otherPitchesOfSpeakersStay() {
        LectureTurns x = States.some();
        x.speaker(300);
        CHECK.due("turn 2 to 1", 142, x.give(2, 1));
        CHECK.due("pitch of 0", 100, x.speakerOf(0, 0));
        CHECK.due("pitch of 2", 300, x.speakerOf(2, 0));
        CHECK.due("turn 0 to 1", 131, x.give(0, 1));
        CHECK.due("pitch of 0, without turns", 100, x.speakerOf(0, 0));
        x.remove(0);
        CHECK.due("a turn that is removed", 131, x.speakerOf(1, 0));
        x.part(0, 35, 0);
        CHECK.due("a turn that is parted", 131, x.speakerOf(1, 0));
        x.turn(0, 1, 141);
        CHECK.due("a turn that comes is of 1", 4, x.speakerOf(1, 1));
        CHECK.due("a turn that comes", 131, x.speakerOf(1, 0));
    }

    /** "INVALID_ARGUMENT if there is no such speaker", the former or the latter. */
    private static void joinSpeakersThatThereAre() {
        CHECK.due("join(0, 1)", 3, States.some().join(0, 1));
        CHECK.due("join(1, 0)", 3, States.some().join(1, 0));
        CHECK.outside("join's former", 0, 1, States::some, (x, speaker) -> x.join(speaker, 0));
        CHECK.outside("join's latter", 0, 1, States::some, (x, into) -> x.join(0, into));
        CHECK.due("join(0, 5)", 7, States.full().join(0, 5));
        CHECK.due("join(5, 0)", 7, States.full().join(5, 0));
        CHECK.outside("join's former of 6", 0, 5, States::full, (x, speaker) -> x.join(speaker, 0));
        CHECK.outside("join's latter of 6", 0, 5, States::full, (x, into) -> x.join(5, into));
        CHECK.refused("no speakers", Check.INVALID, States::empty, x -> x.join(0, 1));
        Supplier<LectureTurns> joined = States.after(States::some, x -> x.join(0, 1));
        CHECK.refused("one that is gone", Check.INVALID, joined, x -> x.join(0, 1));
        CHECK.refused("into one that is gone", Check.INVALID, joined, x -> x.join(1, 0));
    }

    /** "or both are the same" */
    private static void joinTwoThatAreUnlike() {
        for (int k = 0; k < 6; k++) {
            int speaker = k;
            CHECK.refused(speaker + " into itself", Check.INVALID, States::full, x -> x.join(speaker, speaker));
            CHECK.refused("nobody into itself", Check.INVALID, States::empty, x -> x.join(speaker, speaker));
        }
    }

    /** "The pitch of the latter becomes the mean of the pitches of all its turns, if there is any." */
    private static void joinWithoutAnyTurn() {
        LectureTurns x = speakers(100, 220).get();
        CHECK.due("turns", 0, x.join(0, 1));
        CHECK.due("the pitch stays", 220, x.speakerOf(1, 0));
        CHECK.due("speakers", 1, x.count(1));
        CHECK.due("states", 3, x.count(8));
    }

    /** As above: a turn of the former alone, of the latter alone, and of both, rounded down. */
    private static void joinWithTurnsOfOneOfThem() {
        LectureTurns former = States.after(speakers(100, 220), x -> x.turn(0, 1, 101)).get();
        CHECK.due("of the former alone", 1, former.join(0, 1));
        CHECK.due("its pitch", 101, former.speakerOf(1, 0));
        LectureTurns latter = States.after(speakers(100, 220), x -> x.turn(0, 1, 221)).get();
        CHECK.due("of the latter alone", 1, latter.join(0, 1));
        CHECK.due("its pitch", 221, latter.speakerOf(1, 0));
        LectureTurns both = States.after(speakers(100, 220), x -> x.turn(0, 1, 100), x -> x.turn(0, 1, 221)).get();
        CHECK.due("of both", 2, both.join(0, 1));
        CHECK.due("321 / 2", 160, both.speakerOf(1, 0));
    }

    /** "the former is gone": no turn is theirs, no pitch is nearest to theirs, and no call takes their number. */
    private static void theFormerIsGone() {
        LectureTurns x = States.some();
        CHECK.due("join", 3, x.join(1, 0));
        CHECK.due("speakerOf", Check.INVALID, x.speakerOf(1, 1));
        CHECK.due("interrupts", Check.INVALID, x.interrupts(1, 0));
        CHECK.due("give", Check.INVALID, x.give(0, 1));
        CHECK.due("nearest", Check.NOT_FOUND, x.nearest(200));
        CHECK.due("speakers in 35", Check.set(0), x.during(35, 1));
        CHECK.due("speakers that show 6", Check.set(0), x.termOf(6, 5));
        CHECK.due("nobody interrupts", 0, x.turnOf(1, 6));
        CHECK.due("speakers", Check.set(0), x.count(10));
        CHECK.due("turns without a speaker", 1, x.count(4));
    }

    /** "who has all turns of both then": 20 turns by five joins. */
    private static void joinAllTurns() {
        LectureTurns x = States.full();
        int[] due = {7, 10, 13, 16, 20};
        int[] formers = {5, 4, 3, 2, 1};
        for (int k = 0; k < 5; k++) {
            CHECK.due("join " + formers[k], due[k], x.join(formers[k], 0));
        }
        CHECK.due("the mean of all", (4 * (50 + 140) + 3 * (230 + 320 + 410 + 500)) / 20, x.speakerOf(0, 0));
        CHECK.due("speakers", 1, x.count(1));
        CHECK.due("nobody is left to join", Check.INVALID, x.join(0, 1));
    }

    /** "what: 0" */
    private static void aSettingThatThereIs() {
        CHECK.outside("set's what", 0, 0, States::some, (x, what) -> x.set(what, 100));
        CHECK.outside("set's what of new", 0, 0, States::empty, (x, what) -> x.set(what, 100));
        CHECK.refused("by the number that count() has for it", Check.INVALID, States::some, x -> x.set(20, 100));
    }

    /** "0 (0 to 200; 30)"; "Returns what it was" */
    private static void aSettingFrom0To200() {
        LectureTurns x = new LectureTurns();
        CHECK.due("at first", 30, x.count(20));
        CHECK.due("set 0", 30, x.set(0, 0));
        CHECK.due("it is 0", 0, x.count(20));
        CHECK.due("set 200", 0, x.set(0, 200));
        CHECK.due("it is 200", 200, x.count(20));
        CHECK.due("set 200 again", 200, x.set(0, 200));
        CHECK.due("this is a change, too", 3, x.count(8));
        CHECK.outside("set's value", 0, 200, States::some, (y, value) -> y.set(0, value));
    }

    /** "pitch: 50 to 500", of nearest; INVALID_ARGUMENT rather than NOT_FOUND. */
    private static void nearestOfAPitchFrom50To500() {
        LectureTurns x = speakers(50, 500).get();
        CHECK.due("50", 0, x.nearest(50));
        CHECK.due("500", 1, x.nearest(500));
        CHECK.outside("nearest's pitch", 50, 500, speakers(50, 500), LectureTurns::nearest);
        CHECK.outside("nearest's pitch of none", 50, 500, States::empty, LectureTurns::nearest);
    }

    /** "NOT_FOUND if none" */
    private static void nearestWithoutAny() {
        for (int pitch : new int[] {50, 100, 500}) {
            CHECK.refused("no speakers", Check.NOT_FOUND, States::empty, x -> x.nearest(pitch));
            CHECK.refused("no speakers at the widest", Check.NOT_FOUND, States.after(States::empty, x -> x.set(0, 200)),
                    x -> x.nearest(pitch));
        }
        CHECK.refused("too far", Check.NOT_FOUND, States::some, x -> x.nearest(500));
    }

    /** "at most setting 0 away", on both sides: 0, 30, 200. */
    private static void atMostTheSettingAway() {
        for (int away : new int[] {0, 1, 30, 199, 200}) {
            LectureTurns x = speakers(260).get();
            x.set(0, away);
            CHECK.due(away + " below", 0, x.nearest(260 - away));
            CHECK.due(away + " above", 0, x.nearest(260 + away));
            CHECK.due(away + 1 + " below", Check.NOT_FOUND, x.nearest(260 - away - 1));
            CHECK.due(away + 1 + " above", Check.NOT_FOUND, x.nearest(260 + away + 1));
        }
    }

    /** "of several the lowest": of the same pitch, and of two as near on both sides, in both orders. */
    private static void ofSeveralTheLowest() {
        CHECK.due("all the same", 0, speakers(100, 100, 100, 100, 100, 100).get().nearest(110));
        CHECK.due("the lower pitch first", 0, speakers(100, 120).get().nearest(110));
        CHECK.due("the higher pitch first", 0, speakers(120, 100).get().nearest(110));
        CHECK.due("behind a farther one", 1, speakers(130, 120, 100).get().nearest(110));
        CHECK.due("one is nearer", 1, speakers(120, 101).get().nearest(110));
        CHECK.due("the last one is nearest", 5, speakers(90, 90, 130, 130, 90, 109).get().nearest(110));
        LectureTurns x = speakers(100, 100, 100).get();
        x.join(0, 2);
        CHECK.due("the lowest one that is left", 1, x.nearest(100));
        x.turn(0, 1, 100);
        CHECK.due("a turn gets the same", 1, x.turnOf(0, 3));
    }

    /** 50 and 500 are farther away than any setting, and their middle is not. */
    private static void nearestOfTheOutermostPitches() {
        LectureTurns x = speakers(500).get();
        x.set(0, 200);
        CHECK.due("450 away", Check.NOT_FOUND, x.nearest(50));
        CHECK.due("201 away", Check.NOT_FOUND, x.nearest(299));
        CHECK.due("200 away", 0, x.nearest(300));
        x.speaker(50);
        CHECK.due("200 away from the other one", 1, x.nearest(250));
        CHECK.due("between them, too far from both", Check.NOT_FOUND, x.nearest(275));
    }

    /** "speaker: number of the speaker", of speakerOf. */
    private static void somethingOfASpeakerThatThereIs() {
        for (int i = 0; i <= 6; i++) {
            int what = i;
            CHECK.outside("speakerOf's speaker for " + what, 0, 1, States::some, (x, k) -> x.speakerOf(k, what));
        }
        CHECK.due("the last one of 6", 500, States.full().speakerOf(5, 0));
        CHECK.outside("speakerOf's speaker of 6", 0, 5, States::full, (x, k) -> x.speakerOf(k, 0));
        CHECK.refused("nobody", Check.INVALID, States::empty, x -> x.speakerOf(0, 6));
    }

    /** "what: 0 ... 6"; INVALID_ARGUMENT rather than NOT_FOUND. */
    private static void somethingThatASpeakerHas() {
        CHECK.due("what 0", 100, States.some().speakerOf(0, 0));
        CHECK.due("what 6", Float.floatToIntBits(2 * 60f / 55), States.some().speakerOf(0, 6));
        CHECK.outside("speakerOf's what", 0, 6, States::some, (x, what) -> x.speakerOf(1, what));
        CHECK.outside("speakerOf's what without turns", 0, 6, speakers(100), (x, what) -> x.speakerOf(0, what));
    }

    /** "NOT_FOUND for 6 without turns"; the other numbers are 0. */
    private static void aSpeakerWithoutTurns() {
        LectureTurns x = States.after(States::some, y -> y.speaker(300)).get();
        for (int what = 1; what <= 5; what++) {
            CHECK.due("what " + what, 0, x.speakerOf(2, what));
        }
        CHECK.due("what 6", Check.NOT_FOUND, x.speakerOf(2, 6));
        x.turn(0, 1, 300);
        CHECK.due("with a turn without terms", 0, x.speakerOf(2, 6));
        x.remove(0);
        CHECK.due("without turns again", Check.NOT_FOUND, x.speakerOf(2, 6));
    }

    /** All 20 turns of one speaker: the most turns, seconds and terms. */
    private static void aSpeakerOfAllTurns() {
        LectureTurns x = speakers(100).get();
        for (int i = 0; i < 20; i++) {
            x.turn(0, 1999, 100);
        }
        CHECK.due("turns", 20, x.speakerOf(0, 1));
        CHECK.due("seconds, also where they overlap", 20 * 1999, x.speakerOf(0, 2));
        CHECK.due("terms", 0, x.speakerOf(0, 3));
        for (int i = 0; i < 160; i++) {
            x.say(i / 8, i % 16);
        }
        CHECK.due("all terms", 0xFFFF, x.speakerOf(0, 3));
        CHECK.due("160 terms in 39980 seconds", Float.floatToIntBits(9600f / 39980f), x.speakerOf(0, 6));
        x.correct(0, 15);
        CHECK.due("all terms but the one that is corrected", 0xFFFE, x.speakerOf(0, 3));
        CHECK.due("interrupts", 0, x.speakerOf(0, 4));
        CHECK.due("is interrupted", 0, x.speakerOf(0, 5));
    }

    /** "the number of terms of the turns, as a float, times 60 as a float, divided by their seconds, as a float" */
    private static void theRateIsRoundedAsAFloat() {
        int[][] due = {{3, 895, 1045295539}, {3, 1790, 1036906931}, {5, 1219, 1048314501}, {6, 895, 1053684147},
            {7, 1683, 1048546094}, {1, 60, 1065353216}, {1, 61, 1065078180}, {1, 59, 1065495396},
            {8, 1, 1139802112}, {1, 1999, 1022747144}};
        for (int[] d : due) {
            LectureTurns x = speakers(100).get();
            x.turn(0, d[1], 100);
            for (int i = 0; i < d[0]; i++) {
                x.say(0, i);
            }
            CHECK.due(d[0] + " terms in " + d[1] + " seconds", d[2], x.speakerOf(0, 6));
        }
    }

    /** Two turns of speakers 0 and 1. */
    private static LectureTurns two(int begin, int end, int secondBegin, int secondEnd) {
        LectureTurns x = speakers(100, 200).get();
        x.turn(begin, end, 100);
        x.turn(secondBegin, secondEnd, 200);
        return x;
    }

    /** "if it begins above the begin and below the end of that" */
    private static void interruptionsBeginInsideTheOtherTurn() {
        CHECK.due("at its begin", 0, two(10, 20, 10, 15).interrupts(1, 0));
        CHECK.due("nor the other way", 0, two(10, 20, 10, 15).interrupts(0, 1));
        CHECK.due("one second above its begin", 1, two(10, 20, 11, 12).interrupts(1, 0));
        CHECK.due("not the other way", 0, two(10, 20, 11, 12).interrupts(0, 1));
        CHECK.due("one second below its end", 1, two(10, 20, 19, 30).interrupts(1, 0));
        CHECK.due("at its end", 0, two(10, 20, 20, 30).interrupts(1, 0));
        CHECK.due("ahead of it", 0, two(10, 20, 9, 30).interrupts(1, 0));
        CHECK.due("by it then", 1, two(10, 20, 9, 30).interrupts(0, 1));
        CHECK.due("as a set", Check.set(0), two(10, 20, 11, 12).turnOf(1, 6));
        CHECK.due("at its begin, as a set", 0, two(10, 20, 10, 12).turnOf(1, 6));
        CHECK.due("at its end, as a set", 0, two(10, 20, 20, 21).turnOf(1, 6));
    }

    /** "and their speakers are known and unlike" */
    private static void interruptionsOfKnownSpeakers() {
        LectureTurns x = speakers(100, 200).get();
        x.turn(0, 50, 100);
        x.turn(10, 50, 400);
        x.turn(20, 50, 100);
        x.turn(30, 50, 200);
        x.turn(40, 50, 400);
        int[] due = {0, 0, 0, Check.set(0, 2), 0};
        for (int i = 0; i < 5; i++) {
            CHECK.due("turn " + i + " interrupts", due[i], x.turnOf(i, 6));
        }
        CHECK.due("0 is interrupted", 2, x.speakerOf(0, 5));
        CHECK.due("0 interrupts", 0, x.speakerOf(0, 4));
        CHECK.due("1 interrupts", 2, x.speakerOf(1, 4));
        CHECK.due("1 is interrupted", 0, x.speakerOf(1, 5));
        x.join(1, 0);
        CHECK.due("one speaker interrupts nobody", 0, x.turnOf(3, 6));
    }

    /** "number of a speaker", "number of another one"; "no such speaker, or both are the same" */
    private static void interruptsOfTwoSpeakersThatThereAre() {
        CHECK.due("interrupts(1, 0)", 1, States.some().interrupts(1, 0));
        CHECK.due("interrupts(0, 1)", 0, States.some().interrupts(0, 1));
        CHECK.outside("interrupts' speaker", 0, 1, States::some, (x, k) -> x.interrupts(k, 0));
        CHECK.outside("interrupts' other", 0, 1, States::some, (x, k) -> x.interrupts(1, k));
        CHECK.due("interrupts(5, 4)", 3, States.full().interrupts(5, 4));
        CHECK.outside("interrupts' speaker of 6", 0, 5, States::full, (x, k) -> x.interrupts(k, 0));
        CHECK.outside("interrupts' other of 6", 0, 5, States::full, (x, k) -> x.interrupts(0, k));
        for (int k = 0; k < 6; k++) {
            int speaker = k;
            CHECK.refused(k + " and " + k, Check.INVALID, States::full, x -> x.interrupts(speaker, speaker));
        }
        CHECK.refused("no speakers", Check.INVALID, States::empty, x -> x.interrupts(0, 1));
    }

    /** The fewest and the most: each of ten turns interrupts each of ten other ones. */
    private static void interruptsFromNoneToAll() {
        LectureTurns x = speakers(100, 200).get();
        CHECK.due("no turns", 0, x.interrupts(0, 1));
        for (int i = 0; i < 10; i++) {
            x.turn(0, 50, 100);
            x.turn(10, 50, 200);
        }
        CHECK.due("1 interrupts 0", 100, x.interrupts(1, 0));
        CHECK.due("0 interrupts 1", 0, x.interrupts(0, 1));
        CHECK.due("1 interrupts others", 100, x.speakerOf(1, 4));
        CHECK.due("0 is interrupted", 100, x.speakerOf(0, 5));
        CHECK.due("the last turn interrupts", 0x3FF, x.turnOf(19, 6));
        LectureTurns full = States.full();
        int[] due = {3, 4, 3, 3, 3, 3};
        for (int k = 0; k < 6; k++) {
            CHECK.due(k + " interrupts others", due[k], full.speakerOf(k, 4));
        }
    }

    /** "what: 0 ... 1", of doubtful; INVALID_ARGUMENT rather than NOT_FOUND. */
    private static void doubtfulTellsWhatThereIs() {
        CHECK.due("what 0", 0, States.some().doubtful(0));
        CHECK.due("what 1", 10, States.some().doubtful(1));
        CHECK.outside("doubtful's what", 0, 1, States::some, LectureTurns::doubtful);
        CHECK.outside("doubtful's what of none", 0, 1, States::empty, LectureTurns::doubtful);
    }

    /** "NOT_FOUND if no turn has a speaker" */
    private static void doubtfulWithoutAny() {
        for (int i = 0; i <= 1; i++) {
            int what = i;
            CHECK.refused("nothing", Check.NOT_FOUND, States::empty, x -> x.doubtful(what));
            CHECK.refused("no speaker", Check.NOT_FOUND, States.turns(20), x -> x.doubtful(what));
            CHECK.refused("a speaker who came later", Check.NOT_FOUND,
                    States.after(States.turns(20), x -> x.speaker(60)), x -> x.doubtful(what));
            CHECK.refused("no turn", Check.NOT_FOUND, speakers(100), x -> x.doubtful(what));
        }
    }

    /** "how far": 0, and as far as can be: turns of 50 and 500 are 225 away from their mean. */
    private static void doubtfulFrom0Away() {
        LectureTurns x = States.turns(1).get();
        x.speaker(200);
        x.give(0, 0);
        CHECK.due("the only one", 0, x.doubtful(0));
        CHECK.due("0 away", 0, x.doubtful(1));
        LectureTurns y = new LectureTurns();
        y.turn(0, 1, 300);
        y.speaker(100);
        y.turn(1, 2, 70);
        CHECK.due("a turn without a speaker does not count", 1, y.doubtful(0));
        CHECK.due("30 away", 30, y.doubtful(1));
        LectureTurns z = new LectureTurns();
        z.speaker(100);
        z.turn(0, 1, 50);
        z.give(0, 0);
        z.turn(1, 2, 50);
        for (int i = 2; i < 20; i++) {
            z.turn(i, i + 1, 500);
            z.give(i, 0);
        }
        CHECK.due("19 of 20 are near, the first is far", 0, z.doubtful(0));
        CHECK.due("(2 * 50 + 18 * 500) / 20 - 50", 455 - 50, z.doubtful(1));
    }

    /** "its place, of several the lowest": above and below the speaker's pitch. */
    private static void doubtfulOfSeveral() {
        LectureTurns x = speakers(100, 300).get();
        x.turn(0, 1, 120);
        x.turn(1, 2, 80);
        x.turn(2, 3, 280);
        CHECK.due("all are 20 away", 0, x.doubtful(0));
        CHECK.due("20", 20, x.doubtful(1));
        x.turn(3, 4, 321);
        CHECK.due("the last one is farther", 3, x.doubtful(0));
        CHECK.due("21", 21, x.doubtful(1));
        x.turn(0, 1, 79);
        CHECK.due("one ahead is as far", 1, x.doubtful(0));
        CHECK.due("21 below", 21, x.doubtful(1));
    }
}

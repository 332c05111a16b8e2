/** Promises 8 to 11, 15, 17, 18, 22: speaker, give, join, set, speakerOf, interrupts, nearest, doubtful. */
public final class SpeakersTest {
    private static final Check CHECK = new Check();

    public static void main(String[] args) {
        speakerGetsTheLowestFreeNumber();
        speakerRefuses();
        giveTakesTheMean();
        giveRefuses();
        joinGivesAllTurns();
        joinWithoutTurnsKeepsThePitch();
        joinRefuses();
        setTellsTheOldOne();
        nearestTellsTheLowest();
        speakerOfTellsAll();
        speakerOfTellsTheFirstTurnsTerms();
        speakerOfTellsTheRateAsAFloat();
        speakerOfRefuses();
        interruptionsNeedTwoKnownSpeakers();
        interruptsRefuses();
        doubtfulFindsTheFarthest();
        CHECK.end();
    }

    private static void speakerGetsTheLowestFreeNumber() {
        LectureTurns x = new LectureTurns();
        x.turn(0, 1, 100);
        for (int i = 0; i < 6; i++) {
            CHECK.due("speaker " + i, i, x.speaker(100));
        }
        CHECK.due("turns stay", Check.NOT_FOUND, x.turnOf(0, 3));
        CHECK.due("the seventh", Check.LIMIT, x.speaker(100));
        CHECK.due("the seventh, wrong", Check.INVALID, x.speaker(501));
        x.join(4, 5);
        x.join(2, 5);
        CHECK.due("set", Check.set(0, 1, 3, 5), x.count(10));
        CHECK.due("the lowest free one", 2, x.speaker(300));
        CHECK.due("the next free one", 4, x.speaker(301));
        CHECK.due("its pitch", 300, x.speakerOf(2, 0));
    }

    private static void speakerRefuses() {
        LectureTurns x = new LectureTurns();
        CHECK.due("49", Check.INVALID, x.speaker(49));
        CHECK.due("501", Check.INVALID, x.speaker(501));
        CHECK.due("MIN", Check.INVALID, x.speaker(Integer.MIN_VALUE));
        CHECK.due("MAX", Check.INVALID, x.speaker(Integer.MAX_VALUE));
        CHECK.due("50", 0, x.speaker(50));
        CHECK.due("500", 1, x.speaker(500));
    }

    private static void giveTakesTheMean() {
        LectureTurns x = new LectureTurns();
        x.turn(0, 10, 101);
        x.turn(1, 10, 104);
        x.turn(2, 10, 400);
        x.speaker(300);
        x.speaker(60);
        CHECK.due("the first one", 101, x.give(0, 0));
        CHECK.due("(101 + 104) / 2, rounded down", 102, x.give(1, 0));
        CHECK.due("(101 + 104 + 400) / 3", 201, x.give(2, 0));
        CHECK.due("another speaker", 104, x.give(1, 1));
        CHECK.due("the pitch of the one before stays", 201, x.speakerOf(0, 0));
        CHECK.due("its turns", 2, x.speakerOf(0, 1));
        CHECK.due("given back", 201, x.give(1, 0));
        CHECK.due("the pitch of one without turns stays", 104, x.speakerOf(1, 0));
    }

    private static void giveRefuses() {
        LectureTurns x = new LectureTurns();
        CHECK.due("nothing there", Check.INVALID, x.give(0, 0));
        x.speaker(100);
        CHECK.due("no turn", Check.INVALID, x.give(0, 0));
        x.turn(0, 10, 105);
        CHECK.due("already", Check.NOT_POSSIBLE, x.give(0, 0));
        CHECK.due("place -1", Check.INVALID, x.give(-1, 0));
        CHECK.due("place 1", Check.INVALID, x.give(1, 0));
        CHECK.due("no speaker 1", Check.INVALID, x.give(0, 1));
        CHECK.due("speaker -1", Check.INVALID, x.give(0, -1));
        CHECK.due("speaker 6", Check.INVALID, x.give(0, 6));
        CHECK.due("pitch as it was", 100, x.speakerOf(0, 0));
        CHECK.due("states", 2, x.count(8));
    }

    private static void joinGivesAllTurns() {
        LectureTurns x = new LectureTurns();
        x.speaker(100);
        x.speaker(200);
        x.turn(0, 10, 110);
        x.turn(1, 10, 190);
        x.turn(2, 10, 205);
        x.turn(3, 10, 400);
        CHECK.due("join(1,0)", 3, x.join(1, 0));
        CHECK.due("(110 + 190 + 205) / 3", 168, x.speakerOf(0, 0));
        CHECK.due("1 is gone", Check.INVALID, x.speakerOf(1, 0));
        CHECK.due("speakers", 1, x.count(1));
        CHECK.due("owner of 1", 0, x.turnOf(1, 3));
        CHECK.due("owner of 2", 0, x.turnOf(2, 3));
        CHECK.due("none of 3", Check.NOT_FOUND, x.turnOf(3, 3));
        CHECK.due("1 is nobody's nearest", Check.NOT_FOUND, x.nearest(200));
        x.speaker(300);
        CHECK.due("a former without turns changes the pitch", 3, x.join(1, 0));
        CHECK.due("the mean again", 168, x.speakerOf(0, 0));
        x.speaker(500);
        CHECK.due("join(0,1)", 3, x.join(0, 1));
        CHECK.due("owner of the first turn", 1, x.turnOf(0, 3));
    }

    private static void joinWithoutTurnsKeepsThePitch() {
        LectureTurns x = new LectureTurns();
        x.speaker(100);
        x.speaker(200);
        CHECK.due("join(0,1)", 0, x.join(0, 1));
        CHECK.due("pitch", 200, x.speakerOf(1, 0));
        x.turn(0, 1, 210);
        x.speaker(100);
        CHECK.due("a latter with a turn of another pitch", 1, x.join(0, 1));
        CHECK.due("the mean", 210, x.speakerOf(1, 0));
    }

    private static void joinRefuses() {
        LectureTurns x = new LectureTurns();
        x.speaker(100);
        x.speaker(200);
        int[][] wrong = {{0, 0}, {0, 2}, {2, 0}, {-1, 0}, {0, -1}, {6, 0}, {0, 6}, {2, 2}};
        for (int[] w : wrong) {
            CHECK.due("join(" + w[0] + "," + w[1] + ")", Check.INVALID, x.join(w[0], w[1]));
        }
        CHECK.due("speakers", 2, x.count(1));
    }

    private static void setTellsTheOldOne() {
        LectureTurns x = new LectureTurns();
        CHECK.due("set(0,200)", 30, x.set(0, 200));
        CHECK.due("set(0,0)", 200, x.set(0, 0));
        CHECK.due("set(0,0) again", 0, x.set(0, 0));
        CHECK.due("states", 3, x.count(8));
        CHECK.due("set(0,-1)", Check.INVALID, x.set(0, -1));
        CHECK.due("set(0,201)", Check.INVALID, x.set(0, 201));
        CHECK.due("set(1,5)", Check.INVALID, x.set(1, 5));
        CHECK.due("set(-1,5)", Check.INVALID, x.set(-1, 5));
        CHECK.due("count(20)", 0, x.count(20));
    }

    private static void nearestTellsTheLowest() {
        LectureTurns x = new LectureTurns();
        CHECK.due("no speakers", Check.NOT_FOUND, x.nearest(50));
        x.speaker(140);
        x.speaker(100);
        x.speaker(100);
        CHECK.due("100", 1, x.nearest(100));
        CHECK.due("120, as near", 0, x.nearest(120));
        CHECK.due("119", 1, x.nearest(119));
        CHECK.due("70", 1, x.nearest(70));
        CHECK.due("69", Check.NOT_FOUND, x.nearest(69));
        CHECK.due("170", 0, x.nearest(170));
        CHECK.due("171", Check.NOT_FOUND, x.nearest(171));
        x.set(0, 0);
        CHECK.due("140 exactly", 0, x.nearest(140));
        CHECK.due("141", Check.NOT_FOUND, x.nearest(141));
        x.set(0, 200);
        CHECK.due("340", 0, x.nearest(340));
        CHECK.due("341", Check.NOT_FOUND, x.nearest(341));
        CHECK.due("49", Check.INVALID, x.nearest(49));
        CHECK.due("501", Check.INVALID, x.nearest(501));
        CHECK.due("it is no change", 4, x.count(8));
    }

    /** Speaker 0: 0-10, 5-20. Speaker 1: 8-12, 15-16. None: 9-11. */
    private static LectureTurns example() {
        LectureTurns x = new LectureTurns();
        x.speaker(100);
        x.speaker(200);
        x.turn(0, 10, 100);
        x.turn(5, 20, 100);
        x.turn(8, 12, 200);
        x.turn(9, 11, 400);
        x.turn(15, 16, 200);
        x.say(0, 1);
        x.say(1, 2);
        x.say(1, 1);
        x.say(2, 7);
        x.say(3, 9);
        x.correct(2, 5);
        return x;
    }

    private static void speakerOfTellsAll() {
        LectureTurns x = example();
        int[] first = {100, 2, 25, Check.set(1, 5), 0, 3};
        int[] second = {200, 2, 5, Check.set(7), 3, 0};
        for (int what = 0; what < 6; what++) {
            CHECK.due("speakerOf(0," + what + ")", first[what], x.speakerOf(0, what));
            CHECK.due("speakerOf(1," + what + ")", second[what], x.speakerOf(1, what));
        }
    }

    private static void speakerOfTellsTheFirstTurnsTerms() {
        LectureTurns x = new LectureTurns();
        x.speaker(100);
        x.speaker(200);
        x.turn(0, 10, 200);
        x.turn(5, 6, 100);
        x.say(0, 0);
        CHECK.due("terms of the first turn", Check.set(0), x.speakerOf(1, 3));
        CHECK.due("interrupted by speaker 0", 1, x.speakerOf(1, 5));
        CHECK.due("speaker 0 interrupts", 1, x.speakerOf(0, 4));
    }

    private static void speakerOfTellsTheRateAsAFloat() {
        LectureTurns x = example();
        CHECK.due("3 * 60 / 25", Float.floatToIntBits(3f * 60f / 25f), x.speakerOf(0, 6));
        CHECK.due("1 * 60 / 5", Float.floatToIntBits(12f), x.speakerOf(1, 6));
        x.speaker(300);
        CHECK.due("without turns", Check.NOT_FOUND, x.speakerOf(2, 6));
        x.turn(0, 7, 300);
        CHECK.due("without terms", 0, x.speakerOf(2, 6));
        x.say(1, 1);
        CHECK.due("1 * 60 / 7", Float.floatToIntBits(60f / 7f), x.speakerOf(2, 6));
        LectureTurns y = new LectureTurns();
        y.speaker(100);
        y.turn(0, 1999, 100);
        y.say(0, 0);
        CHECK.due("below 1", Float.floatToIntBits(60f / 1999f), y.speakerOf(0, 6));
        LectureTurns z = new LectureTurns();
        z.speaker(100);
        z.turn(0, 1, 100);
        for (int i = 1; i <= 8; i++) {
            z.say(0, 0);
            CHECK.due(i + " in a second", Float.floatToIntBits(i * 60f), z.speakerOf(0, 6));
        }
    }

    private static void speakerOfRefuses() {
        LectureTurns x = example();
        CHECK.due("no speaker 2", Check.INVALID, x.speakerOf(2, 0));
        CHECK.due("speaker -1", Check.INVALID, x.speakerOf(-1, 0));
        CHECK.due("speaker 6", Check.INVALID, x.speakerOf(6, 0));
        CHECK.due("what -1", Check.INVALID, x.speakerOf(0, -1));
        CHECK.due("what 7", Check.INVALID, x.speakerOf(0, 7));
    }

    private static void interruptionsNeedTwoKnownSpeakers() {
        LectureTurns x = example();
        CHECK.due("1 interrupts 0", 3, x.interrupts(1, 0));
        CHECK.due("0 interrupts 1", 0, x.interrupts(0, 1));
        CHECK.due("turn 2 interrupts", Check.set(0, 1), x.turnOf(2, 6));
        CHECK.due("turn 3 has no speaker", 0, x.turnOf(3, 6));
        CHECK.due("turn 1 interrupts its own speaker", 0, x.turnOf(1, 6));
        CHECK.due("turn 4 interrupts", Check.set(1), x.turnOf(4, 6));
        x.turn(20, 25, 200);
        CHECK.due("at the end is no interruption", 0, x.turnOf(5, 6));
        x.turn(0, 3, 200);
        CHECK.due("at the same begin neither", 0, x.turnOf(1, 6));
    }

    private static void interruptsRefuses() {
        LectureTurns x = example();
        int[][] wrong = {{0, 0}, {0, 2}, {2, 0}, {-1, 0}, {0, -1}, {6, 0}, {0, 6}};
        for (int[] w : wrong) {
            CHECK.due("interrupts(" + w[0] + "," + w[1] + ")", Check.INVALID, x.interrupts(w[0], w[1]));
        }
    }

    private static void doubtfulFindsTheFarthest() {
        LectureTurns x = new LectureTurns();
        CHECK.due("no turn", Check.NOT_FOUND, x.doubtful(0));
        x.turn(50, 60, 500);
        CHECK.due("no speaker", Check.NOT_FOUND, x.doubtful(0));
        CHECK.due("no speaker", Check.NOT_FOUND, x.doubtful(1));
        x.speaker(100);
        x.turn(0, 10, 100);
        CHECK.due("a turn of the speaker's pitch", 0, x.doubtful(0));
        CHECK.due("0 away", 0, x.doubtful(1));
        x.turn(1, 10, 110);
        x.turn(2, 10, 90);
        CHECK.due("the lowest of two", 1, x.doubtful(0));
        CHECK.due("10 away", 10, x.doubtful(1));
        x.turn(3, 10, 89);
        CHECK.due("the farthest", 3, x.doubtful(0));
        CHECK.due("11 away", 11, x.doubtful(1));
        CHECK.due("what -1", Check.INVALID, x.doubtful(-1));
        CHECK.due("what 2", Check.INVALID, x.doubtful(2));
        CHECK.due("what 2 without turns", Check.INVALID, new LectureTurns().doubtful(2));
    }
}

/** Promises 1 to 5: a new object, turn, say, part, remove. */
public final class TurnsTest {
    private static final Check CHECK = new Check();

    public static void main(String[] args) {
        newObjectIsEmpty();
        turnsComeInTheOrderOfTheirBegins();
        aTurnInFrontOfMany();
        turnRefusesWrongArguments();
        turnRefusesTheTwentyFirst();
        turnGetsTheNearestSpeaker();
        sayAppends();
        sayRefuses();
        partGivesTheNewOneTheRest();
        partComesBehindTurnsOfTheSameBegin();
        partRefuses();
        partKeepsNoSpeaker();
        removeMovesTheLaterOnes();
        removeRefuses();
        CHECK.end();
    }

    private static void newObjectIsEmpty() {
        LectureTurns x = new LectureTurns();
        for (int what = 0; what <= 10; what++) {
            CHECK.due("new: count(" + what + ")", 0, x.count(what));
        }
        CHECK.due("new: count(20)", 30, x.count(20));
        for (int term = 0; term < 16; term++) {
            CHECK.due("new: termOf(0)", Check.NOT_FOUND, x.termOf(term, 0));
            CHECK.due("new: termOf(1)", term, x.termOf(term, 1));
        }
        CHECK.due("new: undo", Check.NOT_POSSIBLE, x.undo());
        CHECK.due("new: fault", Check.NOT_FOUND, x.fault(0));
    }

    private static void turnsComeInTheOrderOfTheirBegins() {
        LectureTurns x = new LectureTurns();
        CHECK.due("turn(10,20,100)", 0, x.turn(10, 20, 100));
        CHECK.due("turn(30,40,110)", 1, x.turn(30, 40, 110));
        CHECK.due("turn(10,11,120)", 1, x.turn(10, 11, 120));
        CHECK.due("turn(10,99,130)", 2, x.turn(10, 99, 130));
        CHECK.due("turn(0,1999,140)", 0, x.turn(0, 1999, 140));
        int[] pitches = {140, 100, 120, 130, 110};
        int[] begins = {0, 10, 10, 10, 30};
        int[] ends = {1999, 20, 11, 99, 40};
        for (int i = 0; i < 5; i++) {
            CHECK.due("begin of " + i, begins[i], x.turnOf(i, 0));
            CHECK.due("end of " + i, ends[i], x.turnOf(i, 1));
            CHECK.due("pitch of " + i, pitches[i], x.turnOf(i, 2));
            CHECK.due("terms of " + i, 0, x.turnOf(i, 4));
        }
    }

    private static void aTurnInFrontOfMany() {
        LectureTurns x = new LectureTurns();
        for (int i = 0; i < 15; i++) {
            x.turn(100 + i, 200 + i, 50 + i);
            x.say(i, i);
        }
        CHECK.due("turn(105,300,500)", 6, x.turn(105, 300, 500));
        for (int i = 0; i < 15; i++) {
            int place = i < 6 ? i : i + 1;
            CHECK.due("begin of " + place, 100 + i, x.turnOf(place, 0));
            CHECK.due("end of " + place, 200 + i, x.turnOf(place, 1));
            CHECK.due("pitch of " + place, 50 + i, x.turnOf(place, 2));
            CHECK.due("terms of " + place, 1, x.turnOf(place, 4));
            CHECK.due("term of " + place, i, x.termAt(place, 0, 0));
        }
        CHECK.due("terms of the new one", 0, x.turnOf(6, 4));
    }

    private static void turnRefusesWrongArguments() {
        LectureTurns x = new LectureTurns();
        int[][] wrong = {{-1, 5, 50}, {1999, 2000, 50}, {5, 5, 50}, {6, 5, 50}, {0, 2000, 50}, {0, 1, 49}, {0, 1, 501},
            {1999, 1999, 50}, {Integer.MIN_VALUE, Integer.MAX_VALUE, 50}, {0, Integer.MAX_VALUE, 50},
            {0, 1, Integer.MIN_VALUE}, {0, 1, Integer.MAX_VALUE}, {Integer.MAX_VALUE, Integer.MIN_VALUE, 50}};
        for (int[] w : wrong) {
            CHECK.due("turn(" + w[0] + "," + w[1] + "," + w[2] + ")", Check.INVALID, x.turn(w[0], w[1], w[2]));
        }
        CHECK.due("no turn came", 0, x.count(0));
        CHECK.due("no state came", 0, x.count(8));
        CHECK.due("turn(0,1,50)", 0, x.turn(0, 1, 50));
        CHECK.due("turn(1998,1999,500)", 1, x.turn(1998, 1999, 500));
    }

    private static void turnRefusesTheTwentyFirst() {
        LectureTurns x = new LectureTurns();
        for (int i = 0; i < 20; i++) {
            CHECK.due("turn " + i, i, x.turn(7, 9, 50 + i));
        }
        CHECK.due("turn 20", Check.LIMIT, x.turn(7, 9, 100));
        CHECK.due("turn 20, wrong", Check.INVALID, x.turn(7, 9, 49));
        CHECK.due("count", 20, x.count(0));
        x.remove(19);
        CHECK.due("turn in front of 19", 0, x.turn(0, 9, 100));
        CHECK.due("the last one", 68, x.turnOf(19, 2));
        x.remove(0);
        CHECK.due("turn behind 19", 19, x.turn(8, 9, 100));
    }

    private static void turnGetsTheNearestSpeaker() {
        LectureTurns x = new LectureTurns();
        x.turn(0, 1, 100);
        x.speaker(100);
        x.speaker(140);
        CHECK.due("a turn ahead of all speakers", Check.NOT_FOUND, x.turnOf(0, 3));
        x.turn(1, 2, 120);
        CHECK.due("as near to both", 0, x.turnOf(1, 3));
        x.turn(2, 3, 121);
        CHECK.due("nearer to 1", 1, x.turnOf(2, 3));
        x.turn(3, 4, 170);
        CHECK.due("30 away", 1, x.turnOf(3, 3));
        x.turn(4, 5, 171);
        CHECK.due("31 away", Check.NOT_FOUND, x.turnOf(4, 3));
        x.turn(5, 6, 70);
        CHECK.due("30 below", 0, x.turnOf(5, 3));
        CHECK.due("the pitch of the speaker stays", 100, x.speakerOf(0, 0));
    }

    private static void sayAppends() {
        LectureTurns x = new LectureTurns();
        x.turn(0, 10, 100);
        x.turn(5, 10, 100);
        for (int i = 0; i < 8; i++) {
            CHECK.due("say " + i, i + 1, x.say(0, 15 - i));
        }
        CHECK.due("say to the next one", 1, x.say(1, 3));
        for (int i = 0; i < 8; i++) {
            CHECK.due("told " + i, 15 - i, x.termAt(0, i, 0));
        }
        CHECK.due("told to the next one", 3, x.termAt(1, 0, 0));
    }

    private static void sayRefuses() {
        LectureTurns x = new LectureTurns();
        CHECK.due("say without turns", Check.INVALID, x.say(0, 0));
        x.turn(0, 10, 100);
        CHECK.due("say(-1,0)", Check.INVALID, x.say(-1, 0));
        CHECK.due("say(1,0)", Check.INVALID, x.say(1, 0));
        CHECK.due("say(0,-1)", Check.INVALID, x.say(0, -1));
        CHECK.due("say(0,16)", Check.INVALID, x.say(0, 16));
        for (int i = 0; i < 8; i++) {
            x.say(0, 0);
        }
        CHECK.due("the ninth", Check.LIMIT, x.say(0, 0));
        CHECK.due("the ninth, wrong", Check.INVALID, x.say(0, 16));
        CHECK.due("terms", 8, x.count(2));
    }

    private static void partGivesTheNewOneTheRest() {
        LectureTurns x = new LectureTurns();
        x.speaker(100);
        x.turn(0, 10, 105);
        for (int i = 0; i < 8; i++) {
            x.say(0, i);
        }
        x.turn(5, 6, 400);
        x.say(1, 9);
        CHECK.due("part(0,4,3)", 1, x.part(0, 4, 3));
        CHECK.due("old begin", 0, x.turnOf(0, 0));
        CHECK.due("old end", 4, x.turnOf(0, 1));
        CHECK.due("old terms", 3, x.turnOf(0, 4));
        CHECK.due("old last term", 2, x.termAt(0, 2, 0));
        CHECK.due("new begin", 4, x.turnOf(1, 0));
        CHECK.due("new end", 10, x.turnOf(1, 1));
        CHECK.due("new pitch", 105, x.turnOf(1, 2));
        CHECK.due("new speaker", 0, x.turnOf(1, 3));
        CHECK.due("new terms", 5, x.turnOf(1, 4));
        for (int i = 0; i < 5; i++) {
            CHECK.due("new term " + i, i + 3, x.termAt(1, i, 0));
        }
        CHECK.due("the other turn", 9, x.termAt(2, 0, 0));
        CHECK.due("part with no term left", 3, x.part(1, 5, 0));
        CHECK.due("part(3,9,5)", 4, x.part(3, 9, 5));
        CHECK.due("none for the new one", 0, x.turnOf(4, 4));
        CHECK.due("all for the old one", 5, x.turnOf(3, 4));
        CHECK.due("a pitch that parts keep", 100, x.speakerOf(0, 0));
    }

    private static void partComesBehindTurnsOfTheSameBegin() {
        LectureTurns x = new LectureTurns();
        x.turn(0, 10, 100);
        x.turn(5, 7, 200);
        x.turn(5, 8, 300);
        x.turn(6, 8, 400);
        CHECK.due("part(0,5,0)", 3, x.part(0, 5, 0));
        CHECK.due("its pitch", 100, x.turnOf(3, 2));
        CHECK.due("the next one", 400, x.turnOf(4, 2));
    }

    private static void partRefuses() {
        LectureTurns x = new LectureTurns();
        CHECK.due("no turn", Check.INVALID, x.part(0, 1, 0));
        x.turn(3, 6, 100);
        x.say(0, 1);
        CHECK.due("at its begin", Check.INVALID, x.part(0, 3, 0));
        CHECK.due("at its end", Check.INVALID, x.part(0, 6, 0));
        CHECK.due("index -1", Check.INVALID, x.part(0, 4, -1));
        CHECK.due("index 2", Check.INVALID, x.part(0, 4, 2));
        CHECK.due("place -1", Check.INVALID, x.part(-1, 4, 0));
        CHECK.due("place 1", Check.INVALID, x.part(1, 4, 0));
        CHECK.due("index 1", 1, x.part(0, 4, 1));
        for (int i = 2; i < 20; i++) {
            x.turn(100, 200, 100);
        }
        CHECK.due("the twenty-first", Check.LIMIT, x.part(19, 150, 0));
        CHECK.due("the twenty-first, wrong", Check.INVALID, x.part(19, 200, 0));
        x.remove(0);
        CHECK.due("the twentieth", 19, x.part(18, 150, 0));
    }

    private static void partKeepsNoSpeaker() {
        LectureTurns x = new LectureTurns();
        x.turn(0, 10, 100);
        x.speaker(100);
        x.part(0, 5, 0);
        CHECK.due("none", Check.NOT_FOUND, x.turnOf(1, 3));
    }

    private static void removeMovesTheLaterOnes() {
        LectureTurns x = new LectureTurns();
        x.turn(0, 10, 100);
        x.turn(1, 11, 110);
        x.turn(2, 12, 120);
        x.say(1, 1);
        x.say(2, 2);
        x.say(2, 3);
        CHECK.due("remove(1)", 2, x.remove(1));
        CHECK.due("begin of 1", 2, x.turnOf(1, 0));
        CHECK.due("terms of 1", 2, x.turnOf(1, 4));
        CHECK.due("term of 1", 3, x.termAt(1, 1, 0));
        CHECK.due("terms in all", 2, x.count(2));
        CHECK.due("remove(1)", 1, x.remove(1));
        CHECK.due("remove(0)", 0, x.remove(0));
        x.turn(0, 10, 100);
        CHECK.due("a new turn has no terms", 0, x.turnOf(0, 4));
    }

    private static void removeRefuses() {
        LectureTurns x = new LectureTurns();
        CHECK.due("remove(0)", Check.INVALID, x.remove(0));
        x.turn(0, 10, 100);
        CHECK.due("remove(-1)", Check.INVALID, x.remove(-1));
        CHECK.due("remove(1)", Check.INVALID, x.remove(1));
        CHECK.due("remove(MIN)", Check.INVALID, x.remove(Integer.MIN_VALUE));
        CHECK.due("remove(MAX)", Check.INVALID, x.remove(Integer.MAX_VALUE));
    }
}

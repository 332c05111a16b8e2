/** Promises 12, 16, 20, 21, 23: turnOf, during, together, silence, count. */
public final class TimesTest {
    private static final Check CHECK = new Check();

    public static void main(String[] args) {
        turnOfTellsOverlaps();
        turnOfTellsTheSecondsAlone();
        turnOfRefuses();
        duringTellsWhoSpeaks();
        duringRefuses();
        silenceFindsTheLongest();
        silenceIsBetweenTurnsAlone();
        countTellsSeconds();
        countTellsNumbers();
        countRefuses();
        togetherFindsTheMostFrequentPair();
        togetherTakesTheLowestOfSeveral();
        togetherRefuses();
        CHECK.end();
    }

    private static LectureTurns turns(int... times) {
        LectureTurns x = new LectureTurns();
        for (int i = 0; i + 1 < times.length; i += 2) {
            x.turn(times[i], times[i + 1], 100);
        }
        return x;
    }

    private static void turnOfTellsOverlaps() {
        LectureTurns x = turns(0, 10, 10, 20, 15, 16, 15, 30, 0, 10);
        // in order: 0-10, 0-10, 10-20, 15-16, 15-30
        int[] due = {Check.set(1), Check.set(0), Check.set(3, 4), Check.set(2, 4), Check.set(2, 3)};
        for (int i = 0; i < 5; i++) {
            CHECK.due("overlaps of " + i, due[i], x.turnOf(i, 5));
        }
        CHECK.due("pairs", 4, x.count(5));
        LectureTurns y = new LectureTurns();
        for (int i = 0; i < 20; i++) {
            y.turn(0, 1, 100);
        }
        CHECK.due("all but itself", 0x7FFFF, y.turnOf(19, 5));
        CHECK.due("all pairs", 190, y.count(5));
    }

    private static void turnOfTellsTheSecondsAlone() {
        LectureTurns x = turns(0, 100, 10, 20, 15, 30, 40, 50, 90, 120, 130, 131);
        int[] due = {10 + 10 + 40, 0, 0, 0, 20, 1};
        for (int i = 0; i < 6; i++) {
            CHECK.due("alone in " + i, due[i], x.turnOf(i, 7));
        }
        LectureTurns y = turns(5, 9, 5, 9);
        CHECK.due("twins", 0, y.turnOf(0, 7));
        CHECK.due("twins", 0, y.turnOf(1, 7));
        LectureTurns z = turns(5, 10, 0, 7, 8, 9);
        CHECK.due("between", 2, z.turnOf(1, 7));
        CHECK.due("ahead", 5, z.turnOf(0, 7));
    }

    private static void turnOfRefuses() {
        LectureTurns x = turns(0, 1);
        CHECK.due("place -1", Check.INVALID, x.turnOf(-1, 0));
        CHECK.due("place 1", Check.INVALID, x.turnOf(1, 0));
        CHECK.due("place 1, what 3", Check.INVALID, x.turnOf(1, 3));
        CHECK.due("what -1", Check.INVALID, x.turnOf(0, -1));
        CHECK.due("what 8", Check.INVALID, x.turnOf(0, 8));
        CHECK.due("no speaker", Check.NOT_FOUND, x.turnOf(0, 3));
    }

    private static void duringTellsWhoSpeaks() {
        LectureTurns x = new LectureTurns();
        x.speaker(100);
        x.speaker(200);
        x.turn(0, 10, 200);
        x.turn(5, 10, 100);
        x.turn(5, 8, 400);
        CHECK.due("turns in 0", Check.set(0), x.during(0, 0));
        CHECK.due("speakers in 0", Check.set(1), x.during(0, 1));
        CHECK.due("turns in 5", Check.set(0, 1, 2), x.during(5, 0));
        CHECK.due("speakers in 5", Check.set(0, 1), x.during(5, 1));
        CHECK.due("turns in 8", Check.set(0, 1), x.during(8, 0));
        CHECK.due("turns in 9", Check.set(0, 1), x.during(9, 0));
        CHECK.due("turns in 10", 0, x.during(10, 0));
        CHECK.due("speakers in 10", 0, x.during(10, 1));
        CHECK.due("turns in 1999", 0, x.during(1999, 0));
        x.turn(8, 9, 200);
        CHECK.due("two turns of a speaker", Check.set(0, 1), x.during(8, 1));
        x.remove(3);
        x.turn(1998, 1999, 400);
        CHECK.due("turns in 1998", Check.set(3), x.during(1998, 0));
        CHECK.due("speakers in 1998", 0, x.during(1998, 1));
    }

    private static void duringRefuses() {
        LectureTurns x = turns(0, 1);
        CHECK.due("-1", Check.INVALID, x.during(-1, 0));
        CHECK.due("2000", Check.INVALID, x.during(2000, 0));
        CHECK.due("what -1", Check.INVALID, x.during(0, -1));
        CHECK.due("what 2", Check.INVALID, x.during(0, 2));
    }

    private static void silenceFindsTheLongest() {
        LectureTurns x = turns(10, 20, 25, 30, 35, 40, 46, 50);
        CHECK.due("first second", 40, x.silence(0));
        CHECK.due("seconds", 6, x.silence(1));
        LectureTurns y = turns(10, 20, 25, 30, 35, 40);
        CHECK.due("the earliest", 20, y.silence(0));
        CHECK.due("seconds", 5, y.silence(1));
        y.turn(12, 28, 100);
        CHECK.due("one is filled", 30, y.silence(0));
        y.turn(0, 39, 100);
        CHECK.due("all are filled", Check.NOT_FOUND, y.silence(0));
        LectureTurns z = turns(0, 1, 1998, 1999);
        CHECK.due("the longest of all", 1997, z.silence(1));
        CHECK.due("its first second", 1, z.silence(0));
    }

    private static void silenceIsBetweenTurnsAlone() {
        CHECK.due("no turns", Check.NOT_FOUND, new LectureTurns().silence(1));
        CHECK.due("one turn", Check.NOT_FOUND, turns(500, 600).silence(0));
        CHECK.due("one behind another", Check.NOT_FOUND, turns(500, 600, 600, 700).silence(1));
        CHECK.due("what -1", Check.INVALID, turns(0, 1, 5, 6).silence(-1));
        CHECK.due("what 2", Check.INVALID, turns(0, 1, 5, 6).silence(2));
    }

    private static void countTellsSeconds() {
        LectureTurns x = turns(0, 10, 5, 15, 6, 8, 14, 20, 30, 31, 0, 1);
        CHECK.due("at least one", 21, x.count(6));
        CHECK.due("more than one", 1 + 5 + 1, x.count(7));
        LectureTurns y = turns(0, 100, 10, 20, 15, 40, 30, 35, 38, 50, 100, 110);
        CHECK.due("at least one", 110, y.count(6));
        CHECK.due("more than one", 40, y.count(7));
        LectureTurns z = turns(0, 1999, 0, 1999, 0, 1999);
        CHECK.due("all", 1999, z.count(6));
        CHECK.due("all", 1999, z.count(7));
    }

    private static void countTellsNumbers() {
        LectureTurns x = new LectureTurns();
        x.speaker(100);
        x.speaker(200);
        x.speaker(300);
        x.join(1, 0);
        x.turn(0, 10, 100);
        x.turn(5, 10, 200);
        x.turn(8, 9, 300);
        x.say(0, 1);
        x.say(2, 1);
        x.say(2, 1);
        x.correct(4, 5);
        x.correct(5, 6);
        Check.type(x, "abc");
        int[] due = {3, 2, 3, 2, 1, 3, 10, 5, 4, 3, Check.set(0, 2)};
        for (int what = 0; what < due.length; what++) {
            CHECK.due("count(" + what + ")", due[what], x.count(what));
        }
        x.set(0, 77);
        CHECK.due("count(20)", 77, x.count(20));
    }

    private static void countRefuses() {
        LectureTurns x = new LectureTurns();
        for (int what : new int[] {-1, 11, 12, 19, 21, Integer.MIN_VALUE, Integer.MAX_VALUE}) {
            CHECK.due("count(" + what + ")", Check.INVALID, x.count(what));
        }
    }

    private static LectureTurns terms(String... turns) {
        LectureTurns x = new LectureTurns();
        for (int i = 0; i < turns.length; i++) {
            x.turn(i, i + 1, 100);
            for (char sign : turns[i].toCharArray()) {
                x.say(i, sign - 'a');
            }
        }
        return x;
    }

    private static void dueTogether(String name, LectureTurns x, int lower, int higher, int number) {
        CHECK.due(name + ": lower", lower, x.together(0));
        CHECK.due(name + ": higher", higher, x.together(1));
        CHECK.due(name + ": number", number, x.together(2));
    }

    private static void togetherFindsTheMostFrequentPair() {
        LectureTurns x = terms("ab", "pad", "dp", "b");
        dueTogether("d and p", x, 3, 15, 2);
        dueTogether("counted once for a turn", terms("abab", "cd", "dac"), 2, 3, 2);
        x.correct(1, 3);
        x.correct(0, 15);
        dueTogether("by what is shown", x, 3, 15, 3);
        dueTogether("the lowest term", terms("ba", "ab", "cd"), 0, 1, 2);
        dueTogether("not by what is told", terms("hg"), 6, 7, 1);
        LectureTurns y = terms("hg");
        y.correct(6, 7);
        CHECK.due("both shown as one", Check.NOT_FOUND, y.together(2));
    }

    private static void togetherTakesTheLowestOfSeveral() {
        dueTogether("lowest lower", terms("cb", "gd"), 1, 2, 1);
        dueTogether("lowest higher", terms("cd", "bfe"), 1, 4, 1);
    }

    private static void togetherRefuses() {
        CHECK.due("nothing", Check.NOT_FOUND, new LectureTurns().together(0));
        CHECK.due("single terms", Check.NOT_FOUND, terms("a", "bb").together(1));
        CHECK.due("what -1", Check.INVALID, terms("ab").together(-1));
        CHECK.due("what 3", Check.INVALID, terms("ab").together(3));
        CHECK.due("what 3 and nothing", Check.INVALID, new LectureTurns().together(3));
    }
}

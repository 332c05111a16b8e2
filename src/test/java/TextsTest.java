/** Promises 25 to 28: type, clearText, fault, play. */
public final class TextsTest {
    private static final Check CHECK = new Check();

    public static void main(String[] args) {
        typeAppends();
        clearTextEmpties();
        textsThatAreNotOfTheForm();
        ordersThatAreRefused();
        theFirstFaultCounts();
        faultDependsOnTheStateOfNow();
        faultRefuses();
        playDoesAllOrders();
        playIsOneChange();
        playRefuses();
        theLongestText();
        CHECK.end();
    }

    private static LectureTurns text(String text) {
        LectureTurns x = new LectureTurns();
        Check.type(x, text);
        return x;
    }

    private static void dueFault(String name, LectureTurns x, int position, int reason, int cause) {
        CHECK.due(name + ": position", position, x.fault(0));
        CHECK.due(name + ": reason", reason, x.fault(1));
        CHECK.due(name + ": cause", cause, x.fault(2));
        CHECK.due(name + ": play", Check.NOT_POSSIBLE, x.play());
    }

    private static void typeAppends() {
        LectureTurns x = new LectureTurns();
        CHECK.due("31", Check.INVALID, x.type(31));
        CHECK.due("127", Check.INVALID, x.type(127));
        CHECK.due("-1", Check.INVALID, x.type(-1));
        CHECK.due("256 + 's'", Check.INVALID, x.type(256 + 's'));
        CHECK.due("32", 1, x.type(32));
        CHECK.due("126", 2, x.type(126));
        for (int i = 3; i <= 60; i++) {
            CHECK.due("character " + i, i, x.type(';'));
        }
        CHECK.due("the next one", Check.LIMIT, x.type(';'));
        CHECK.due("the next one, wrong", Check.INVALID, x.type(127));
        CHECK.due("length", 60, x.count(9));
        CHECK.due("no change", 0, x.count(8));
    }

    private static void clearTextEmpties() {
        LectureTurns x = text("s100;");
        CHECK.due("clearText", 5, x.clearText());
        CHECK.due("clearText again", 0, x.clearText());
        CHECK.due("length", 0, x.count(9));
        CHECK.due("no change", 0, x.count(8));
        CHECK.due("no order", 0, x.play());
        CHECK.due("type", 1, x.type('s'));
    }

    private static void textsThatAreNotOfTheForm() {
        Object[][] due = {{"x", 0}, {" s1;", 0}, {";", 0}, {"s", 1}, {"s;", 1}, {"s,", 1}, {"s1", 2}, {"s1,", 2},
            {"s12345;", 5}, {"s0100", 5}, {"t", 1}, {"t1;", 2}, {"t1,", 3}, {"t1,2;", 4}, {"t1,2,", 5},
            {"t1,2,3", 6}, {"t1,2,3,", 6}, {"t12345,", 5}, {"t1,,3;", 3}, {"w1;", 2}, {"w1,2", 4}, {"w1,2,", 4},
            {"c-1,2;", 1}, {"c1, 2;", 3}, {"g1,2 ;", 4}, {"G1,2;", 0}, {"g1,23456;", 7}, {"5", 0}, {"tt", 1}};
        for (Object[] d : due) {
            dueFault("\"" + d[0] + "\"", text((String) d[0]), 0, 1, (Integer) d[1]);
        }
        dueFault("behind a good one", text("s100;s100"), 5, 1, 4);
        dueFault("a ; too many", text("s100;;"), 5, 1, 0);
    }

    private static void ordersThatAreRefused() {
        dueFault("pitch", text("s49;"), 0, 2, Check.INVALID);
        dueFault("pitch 9999", text("s9999;"), 0, 2, Check.INVALID);
        dueFault("turn", text("t5,5,100;"), 0, 2, Check.INVALID);
        dueFault("say", text("w0,0;"), 0, 2, Check.INVALID);
        dueFault("correct", text("c3,3;"), 0, 2, Check.INVALID);
        dueFault("correct back", text("c3,4;c4,3;"), 5, 2, Check.NOT_POSSIBLE);
        dueFault("give", text("t0,1,50;g0,0;"), 8, 2, Check.INVALID);
        dueFault("give again", text("s50;t0,1,50;g0,0;"), 12, 2, Check.NOT_POSSIBLE);
        dueFault("seven speakers", text("s50;s50;s50;s50;s50;s50;s50;"), 24, 2, Check.LIMIT);
        LectureTurns x = text("w0,7;");
        x.turn(0, 1, 50);
        for (int i = 0; i < 8; i++) {
            x.say(0, 0);
        }
        dueFault("nine terms", x, 0, 2, Check.LIMIT);
        LectureTurns y = text("t0,1,50;");
        for (int i = 0; i < 20; i++) {
            y.turn(0, 1, 50);
        }
        dueFault("21 turns", y, 0, 2, Check.LIMIT);
    }

    private static void theFirstFaultCounts() {
        dueFault("refused ahead of malformed", text("s100;s1;x"), 5, 2, Check.INVALID);
        dueFault("malformed ahead of refused", text("s100;x;s1;"), 5, 1, 0);
    }

    private static void faultDependsOnTheStateOfNow() {
        LectureTurns x = text("w0,5;");
        CHECK.due("no turn", 2, x.fault(1));
        x.turn(0, 1, 50);
        CHECK.due("a turn", Check.NOT_FOUND, x.fault(1));
        CHECK.due("asking does nothing", 0, x.count(2));
        CHECK.due("asking records nothing", 1, x.count(8));
        x.undo();
        CHECK.due("undone", 2, x.fault(1));
    }

    private static void faultRefuses() {
        LectureTurns x = text("x");
        CHECK.due("what -1", Check.INVALID, x.fault(-1));
        CHECK.due("what 3", Check.INVALID, x.fault(3));
        LectureTurns y = new LectureTurns();
        CHECK.due("empty", Check.NOT_FOUND, y.fault(0));
        CHECK.due("empty", Check.NOT_FOUND, y.fault(2));
        CHECK.due("empty, what 3", Check.INVALID, y.fault(3));
        CHECK.due("a good one", Check.NOT_FOUND, text("s0100;").fault(0));
    }

    private static void playDoesAllOrders() {
        LectureTurns x = text("s100;s0200;t0000,9,110;t2,0005,195;w1,15;c15,0;g0,1;");
        CHECK.due("play", 7, x.play());
        CHECK.due("the text stays", 52, x.count(9));
        CHECK.due("turns", 2, x.count(0));
        CHECK.due("speakers", 2, x.count(1));
        CHECK.due("begin", 2, x.turnOf(1, 0));
        CHECK.due("end", 5, x.turnOf(1, 1));
        CHECK.due("pitch", 195, x.turnOf(1, 2));
        CHECK.due("speaker of 1", 1, x.turnOf(1, 3));
        CHECK.due("speaker of 0", 1, x.turnOf(0, 3));
        CHECK.due("pitch of 1", 152, x.speakerOf(1, 0));
        CHECK.due("told", 15, x.termAt(1, 0, 0));
        CHECK.due("shown", 0, x.termAt(1, 0, 1));
    }

    private static void playIsOneChange() {
        LectureTurns x = text("s100;s200;t0,1,50;");
        x.set(0, 60);
        CHECK.due("play", 3, x.play());
        CHECK.due("states", 2, x.count(8));
        CHECK.due("play again", 3, x.play());
        CHECK.due("speakers", 4, x.count(1));
        CHECK.due("undo", 2, x.undo());
        CHECK.due("speakers", 2, x.count(1));
        CHECK.due("the text stays", 18, x.count(9));
        x.clearText();
        CHECK.due("an empty text", 0, x.play());
        CHECK.due("is a change, too", 3, x.count(8));
        CHECK.due("undo", 2, x.undo());
        CHECK.due("undo leaves the text", 0, x.count(9));
    }

    private static void playRefuses() {
        LectureTurns x = text("s100;t0,1,100;w0,16;");
        CHECK.due("play", Check.NOT_POSSIBLE, x.play());
        CHECK.due("nothing is done", 0, x.count(0) + x.count(1) + x.count(8));
        CHECK.due("the text stays", 20, x.count(9));
    }

    private static void theLongestText() {
        LectureTurns x = new LectureTurns();
        for (int i = 0; i < 12; i++) {
            Check.type(x, "c1,2;");
        }
        CHECK.due("length", 60, x.count(9));
        CHECK.due("play", 12, x.play());
        CHECK.due("states", 1, x.count(8));
        x.clearText();
        Check.type(x, "c1,2;c1,2;c1,2;c1,2;c1,2;c1,2;c1,2;c1,2;c1,2;c1,2;c1,2;c1111");
        dueFault("cut at the end", x, 55, 1, 5);
    }
}

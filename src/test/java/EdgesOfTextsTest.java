/** The boundary cases that the document names for texts: "Texts" and promises 25 to 28. */
public final class EdgesOfTextsTest {
    private static final Check CHECK = new Check();
    /** Of each form one with the shortest numbers, and one with the longest. */
    private static final String[] ORDERS = {"t0,9,50;", "t0000,1999,0500;", "w0,0;", "w0000,0015;", "c0,1;",
        "c0015,0000;", "s50;", "s0500;", "g0,0;", "g0000,0001;"};

    public static void main(String[] args) {
        aCharacterFrom32To126();
        atMost60Characters();
        initiallyEmpty();
        emptiesTheText();
        anOrderThatTheTextEndsTooEarly();
        anOrderThatBreaksOff();
        numbersOf1To4Digits();
        zerosAhead();
        digitsAndNothingElse();
        lettersAndNothingElse();
        noOrderBetween();
        turnsComeInTheirRanges();
        termsAreSaidInTheirRanges();
        termsAreCorrectedInTheirRanges();
        speakersComeInTheirRanges();
        turnsAreGivenInTheirRanges();
        causesByTheOrderOfTheErrors();
        limitsInsideTheText();
        theFirstOrderThatIsNotPossible();
        whenThoseAheadOfItAreDone();
        somethingOfTheFaultThatThereIs();
        noFault();
        faultDoesNothing();
        playNoOrders();
        playAsManyOrdersAsThereCanBe();
        playStaysAndIsOneChange();
        playRefusesAText();
        playAtTheLimits();
        CHECK.end();
    }

    private static void dueFault(String name, LectureTurns x, int position, int reason, int cause) {
        CHECK.due(name + ": position", position, x.fault(0));
        CHECK.due(name + ": reason", reason, x.fault(1));
        CHECK.due(name + ": cause", cause, x.fault(2));
    }

    private static void dueFault(String text, int position, int reason, int cause) {
        dueFault("\"" + text + "\"", States.text(text).get(), position, reason, cause);
        CHECK.refused("play \"" + text + "\"", Check.NOT_POSSIBLE, States.text(text), LectureTurns::play);
    }

    private static LectureTurns played(String text, int orders) {
        LectureTurns x = States.text(text).get();
        CHECK.due("play \"" + text + "\"", orders, x.play());
        return x;
    }

    /** "character: 32 to 126" */
    private static void aCharacterFrom32To126() {
        LectureTurns x = new LectureTurns();
        CHECK.due("32", 1, x.type(32));
        CHECK.due("126", 2, x.type(126));
        CHECK.outside("type's character", 32, 126, States::some, LectureTurns::type);
        CHECK.outside("type's character, the first one", 32, 126, States::empty, LectureTurns::type);
        for (int known : new int[] {'s', ';', '0', ','}) {
            CHECK.refused("256 + " + known, Check.INVALID, States::some, y -> y.type(known + 256));
            CHECK.refused("128 + " + known, Check.INVALID, States::some, y -> y.type(known + 128));
            CHECK.refused("65536 + " + known, Check.INVALID, States::some, y -> y.type(known + 65536));
        }
    }

    /** "a text of at most 60 characters"; "LIMIT_REACHED if it has 60", and INVALID_ARGUMENT rather. */
    private static void atMost60Characters() {
        LectureTurns x = new LectureTurns();
        for (int i = 1; i <= 60; i++) {
            CHECK.due("character " + i, i, x.type('x'));
            CHECK.due("length", i, x.count(9));
        }
        CHECK.due("character 61", Check.LIMIT, x.type('x'));
        CHECK.refused("character 61, ;", Check.LIMIT, States::full, y -> y.type(';'));
        CHECK.refused("character 61, 32", Check.LIMIT, States::full, y -> y.type(32));
        CHECK.outside("character 61", 32, 126, States::full, LectureTurns::type);
        CHECK.due("clearText", 60, x.clearText());
        CHECK.due("there is room again", 1, x.type('x'));
    }

    /** "initially empty" */
    private static void initiallyEmpty() {
        LectureTurns x = new LectureTurns();
        CHECK.due("length", 0, x.count(9));
        CHECK.due("fault", Check.NOT_FOUND, x.fault(0));
        CHECK.due("clearText", 0, x.clearText());
    }

    /** "Returns the length it had": 0, 1, 60. */
    private static void emptiesTheText() {
        for (int length : new int[] {0, 1, 59, 60}) {
            LectureTurns x = new LectureTurns();
            for (int i = 0; i < length; i++) {
                x.type('x');
            }
            CHECK.due("length it had", length, x.clearText());
            CHECK.due("length it has", 0, x.count(9));
            CHECK.due("a second time", 0, x.clearText());
            CHECK.due("no fault is left", Check.NOT_FOUND, x.fault(0));
            CHECK.due("no change", 0, x.count(8));
            Check.type(x, "s50;");
            CHECK.due("nothing of the old text", Check.NOT_FOUND, x.fault(0));
            CHECK.due("one order", 1, x.play());
        }
    }

    /** "of one that the text ends too early it is its length" */
    private static void anOrderThatTheTextEndsTooEarly() {
        for (String order : ORDERS) {
            for (int length = 1; length < order.length(); length++) {
                dueFault(order.substring(0, length), 0, 1, length);
                dueFault("c7,8;" + order.substring(0, length), 5, 1, length);
            }
        }
    }

    /** "at which character of the order, from 0, it breaks off" */
    private static void anOrderThatBreaksOff() {
        for (String order : ORDERS) {
            for (int at = 0; at < order.length(); at++) {
                for (char wrong : new char[] {' ', '~', 't'}) {
                    if (at > 0 || wrong != 't') {
                        String text = order.substring(0, at) + wrong + order.substring(at + 1);
                        dueFault(text, 0, 1, at);
                        dueFault("s500;c0,1;" + text, 10, 1, at);
                    }
                }
            }
        }
    }

    /** "numbers of 1 to 4 digits": none and five are not of this form, in each number of each order. */
    private static void numbersOf1To4Digits() {
        Object[][] none = {{"t,9,50;", 1}, {"t0,,50;", 3}, {"t0,9,;", 5}, {"w,0;", 1}, {"w0,;", 3}, {"c,1;", 1},
            {"c0,;", 3}, {"s;", 1}, {"g,0;", 1}, {"g0,;", 3}, {"t;", 1}, {"w;", 1}, {"c;", 1}, {"g;", 1}};
        Object[][] five = {{"t00000,9,50;", 5}, {"t0,00009,50;", 7}, {"t0,9,00050;", 9}, {"w00000,0;", 5},
            {"w0,00000;", 7}, {"c00000,1;", 5}, {"c0,00001;", 7}, {"s00050;", 5}, {"g00000,0;", 5}, {"g0,00000;", 7}};
        Object[][] wrongSign = {{"t0;9,50;", 2}, {"t0,9;", 4}, {"t0,9;50;", 4}, {"t0,9,50,", 7}, {"w0;", 2},
            {"w0,0,", 4}, {"w0,0,0;", 4}, {"c0;", 2}, {"c0,1,2;", 4}, {"s50,", 3}, {"s50,1;", 3}, {"g0;", 2},
            {"g0,0,0;", 4}, {"t0,9,50,1;", 7}};
        for (Object[][] list : new Object[][][] {none, five, wrongSign}) {
            for (Object[] d : list) {
                dueFault((String) d[0], 0, 1, (Integer) d[1]);
            }
        }
    }

    /** "0 ahead allowed" */
    private static void zerosAhead() {
        LectureTurns x = played("s0050;t0007,0010,0060;w0000,0008;c0008,0009;s060;g00,01;", 6);
        CHECK.due("pitch of a speaker", 50, x.speakerOf(0, 0));
        CHECK.due("begin", 7, x.turnOf(0, 0));
        CHECK.due("end, not by eight", 10, x.turnOf(0, 1));
        CHECK.due("pitch of a turn", 60, x.turnOf(0, 2));
        CHECK.due("term", 8, x.termAt(0, 0, 0));
        CHECK.due("corrected to", 9, x.termOf(8, 0));
        CHECK.due("given to", 1, x.turnOf(0, 3));
    }

    /** The characters next to the digits, and signs and marks that other numbers have. */
    private static void digitsAndNothingElse() {
        for (char wrong : new char[] {'/', ':', '-', '+', '.', ' ', 'a', 'x', '_'}) {
            dueFault("s" + wrong + "50;", 0, 1, 1);
            dueFault("s5" + wrong + "0;", 0, 1, 2);
            dueFault("s50" + wrong + ";", 0, 1, 3);
            dueFault("w0," + wrong + "0;", 0, 1, 3);
        }
        LectureTurns x = played("t123,456,78;t90,91,50;", 2);
        int[][] due = {{90, 91, 50}, {123, 456, 78}};
        for (int what = 0; what < 3; what++) {
            CHECK.due("all digits: " + what, due[0][what], x.turnOf(0, what));
            CHECK.due("all digits: " + what, due[1][what], x.turnOf(1, what));
        }
    }

    /** Only "t", "w", "c", "s" and "g" begin an order. */
    private static void lettersAndNothingElse() {
        for (char letter = 32; letter <= 126; letter++) {
            int cause = "twcsg".indexOf(letter) >= 0 ? 1 : 0;
            LectureTurns x = States.text(String.valueOf(letter)).get();
            dueFault("letter '" + letter + "'", x, 0, 1, cause);
        }
        String[] others = {"T0,9,50;", "W0,0;", "C0,1;", "S50;", "G0,0;", "0s50;", "p0,1,0;", "r0;", "u0;", "j0,1;"};
        for (String wrong : others) {
            dueFault(wrong, 0, 1, 0);
        }
    }

    /** "each followed by ";"": one alone, and no blank between. */
    private static void noOrderBetween() {
        dueFault(";", 0, 1, 0);
        dueFault(" ", 0, 1, 0);
        dueFault("s50;;", 4, 1, 0);
        dueFault("s50; ", 4, 1, 0);
        dueFault("s50; s60;", 4, 1, 0);
        dueFault("s50s60;", 0, 1, 3);
        dueFault(";s50;", 0, 1, 0);
    }

    private static void dueRefused(String ahead, String order, int cause) {
        dueFault(ahead + order, ahead.length(), 2, cause);
    }

    /** ""t" a begin, ",", an end, ",", a pitch (a turn comes)" */
    private static void turnsComeInTheirRanges() {
        LectureTurns x = played("t0,1,50;t1998,1999,500;t0,1999,50;", 3);
        CHECK.due("the last begin", 1998, x.turnOf(2, 0));
        CHECK.due("the last end", 1999, x.turnOf(1, 1));
        CHECK.due("the highest pitch", 500, x.turnOf(2, 2));
        for (String wrong : new String[] {"t0,0,50;", "t5,4,50;", "t1999,1999,50;", "t1998,2000,50;", "t0,1,49;",
            "t0,1,501;", "t9999,9999,9999;", "t0,0,0;"}) {
            dueRefused("", wrong, Check.INVALID);
            dueRefused("t0,9,60;", wrong, Check.INVALID);
        }
    }

    /** ""w" a place, ",", a term (said at the end of that turn)" */
    private static void termsAreSaidInTheirRanges() {
        LectureTurns x = played("t0,9,50;t5,9,60;w1,15;w0,0;w1,0;", 5);
        CHECK.due("at the end of the turn", 0, x.termAt(1, 1, 0));
        CHECK.due("the last place, the last term", 15, x.termAt(1, 0, 0));
        dueRefused("", "w0,0;", Check.INVALID);
        dueRefused("t0,9,50;t5,9,60;", "w2,0;", Check.INVALID);
        dueRefused("t0,9,50;t5,9,60;", "w1,16;", Check.INVALID);
        dueRefused("t0,9,50;", "w9999,9999;", Check.INVALID);
        dueRefused("t0,9,50;", "w32,0;", Check.INVALID);
        dueRefused("t0,9,50;", "w0,256;", Check.INVALID);
    }

    /** ""c" a term, ",", a term (corrected to the second one)" */
    private static void termsAreCorrectedInTheirRanges() {
        LectureTurns x = played("c0,15;c15,1;c0,2;", 3);
        CHECK.due("corrected to the second one", 2, x.termOf(0, 0));
        CHECK.due("the last term", 1, x.termOf(15, 0));
        dueRefused("", "c0,16;", Check.INVALID);
        dueRefused("", "c16,0;", Check.INVALID);
        dueRefused("", "c0,0;", Check.INVALID);
        dueRefused("", "c15,15;", Check.INVALID);
        dueRefused("", "c9999,9999;", Check.INVALID);
        dueRefused("c0,15;", "c15,0;", Check.NOT_POSSIBLE);
        dueRefused("c0,1;c1,2;", "c2,0;", Check.NOT_POSSIBLE);
    }

    /** ""s" a pitch (a speaker comes)" */
    private static void speakersComeInTheirRanges() {
        LectureTurns x = played("s50;s500;", 2);
        CHECK.due("the lowest pitch", 50, x.speakerOf(0, 0));
        CHECK.due("the highest pitch", 500, x.speakerOf(1, 0));
        for (String wrong : new String[] {"s49;", "s501;", "s0;", "s0000;", "s9999;"}) {
            dueRefused("", wrong, Check.INVALID);
            dueRefused("s50;s50;s50;s50;s50;s50;", wrong, Check.INVALID);
        }
    }

    /** ""g" a place, ",", a speaker (the turn is told to be theirs)" */
    private static void turnsAreGivenInTheirRanges() {
        LectureTurns x = played("t0,9,50;t5,9,60;s100;s200;g1,1;g0,0;", 6);
        CHECK.due("the last place", 1, x.turnOf(1, 3));
        CHECK.due("the first place", 0, x.turnOf(0, 3));
        CHECK.due("the mean", 60, x.speakerOf(1, 0));
        dueRefused("", "g0,0;", Check.INVALID);
        dueRefused("t0,9,50;", "g0,0;", Check.INVALID);
        dueRefused("s50;", "g0,0;", Check.INVALID);
        dueRefused("t0,9,50;s100;", "g1,0;", Check.INVALID);
        dueRefused("t0,9,50;s100;", "g0,1;", Check.INVALID);
        dueRefused("t0,9,50;s100;", "g0,6;", Check.INVALID);
        dueRefused("t0,9,50;s100;", "g9999,9999;", Check.INVALID);
        dueRefused("s50;t0,9,50;", "g0,0;", Check.NOT_POSSIBLE);
        dueRefused("t0,9,50;s50;g0,0;", "g0,0;", Check.NOT_POSSIBLE);
    }

    /** "the error code that the call returns for it", of several the same as the call's. */
    private static void causesByTheOrderOfTheErrors() {
        Object[][] due = {{"t0,1,50;", Check.LIMIT}, {"t0,0,50;", Check.INVALID}, {"t0,1,501;", Check.INVALID},
            {"w0,0;", Check.LIMIT}, {"w0,16;", Check.INVALID}, {"w20,0;", Check.INVALID}, {"s50;", Check.LIMIT},
            {"s49;", Check.INVALID}, {"c15,0;", Check.NOT_POSSIBLE}, {"c15,15;", Check.INVALID},
            {"c15,16;", Check.INVALID}, {"g0,0;", Check.NOT_POSSIBLE}, {"g20,0;", Check.INVALID},
            {"g0,6;", Check.INVALID}};
        for (Object[] d : due) {
            LectureTurns x = States.full();
            x.clearText();
            Check.type(x, (String) d[0]);
            dueFault("full: " + d[0], x, 0, 2, (Integer) d[1]);
            CHECK.due("full: play " + d[0], Check.NOT_POSSIBLE, x.play());
        }
        dueFault("full: behind 8 orders", States.full(), 56, 2, Check.LIMIT);
    }

    /** The last order that a limit allows is done, the first one that it does not is the fault. */
    private static void limitsInsideTheText() {
        dueRefused("s50;s50;s50;s50;s50;s50;", "s50;", Check.LIMIT);
        played("s50;s50;s50;s50;s50;s50;", 6);
        dueRefused("t0,1,50;w0,1;w0,1;w0,1;w0,1;w0,1;w0,1;w0,1;w0,1;", "w0,1;", Check.LIMIT);
        played("t0,1,50;w0,1;w0,1;w0,1;w0,1;w0,1;w0,1;w0,1;w0,1;", 9);
        LectureTurns turns = States.turns(19).get();
        Check.type(turns, "t8,9,50;t8,9,50;");
        dueFault("the twenty-first turn", turns, 8, 2, Check.LIMIT);
        CHECK.due("play", Check.NOT_POSSIBLE, turns.play());
        CHECK.due("turns", 19, turns.count(0));
        turns.clearText();
        Check.type(turns, "t8,9,50;");
        CHECK.due("the twentieth turn", 1, turns.play());
        CHECK.due("turns", 20, turns.count(0));
    }

    /** "the position, from 0, of the first character of the first order that is not possible" */
    private static void theFirstOrderThatIsNotPossible() {
        dueFault("x", 0, 1, 0);
        dueFault("s49;x", 0, 2, Check.INVALID);
        dueFault("s50;s49;x", 4, 2, Check.INVALID);
        dueFault("s50;x;s49;", 4, 1, 0);
        dueFault("s49;s48;", 0, 2, Check.INVALID);
        dueFault("s50;w0,0;c1,1;", 4, 2, Check.INVALID);
        String most = "c1,2;c1,2;c1,2;c1,2;c1,2;c1,2;c1,2;c1,2;c1,2;c1,2;c1,2;";
        dueFault(most + "c1,1;", 55, 2, Check.INVALID);
        dueFault(most + "c2,1;", 55, 2, Check.NOT_POSSIBLE);
        dueFault(most + "c1,22", 55, 1, 5);
        dueFault(most + "c1,2,", 55, 1, 4);
        dueFault(most + "t1,23", 55, 1, 5);
        dueFault("c1,22;c1,2;c1,2;c1,2;c1,2;c1,2;c1,2;c1,2;c1,2;c1,2;c1,2;w0,0", 0, 2, Check.INVALID);
        LectureTurns x = States.text("s500;c14,15;c14,15;c14,15;c14,15;c14,15;c14,15;c14,15;s50;xx").get();
        CHECK.due("length", 60, x.count(9));
        dueFault("in the last characters", x, 58, 1, 0);
    }

    /** "otherwise 2, when those ahead of it are done" */
    private static void whenThoseAheadOfItAreDone() {
        played("t0,9,50;w0,1;", 2);
        dueFault("w0,1;t0,9,50;", 0, 2, Check.INVALID);
        played("t0,9,50;s90;g0,0;", 3);
        dueFault("t0,9,50;g0,0;s90;", 8, 2, Check.INVALID);
        LectureTurns x = played("s100;t9,10,60;g0,0;t0,1,50;w1,5;", 5);
        CHECK.due("places are those of then", 5, x.termAt(1, 0, 0));
        CHECK.due("the pitch of then is near to 50", 0, x.turnOf(0, 3));
        LectureTurns y = States.some();
        y.clearText();
        Check.type(y, "c6,3;");
        dueFault("by the corrections of now", y, 0, 2, Check.NOT_POSSIBLE);
        y.uncorrect(4);
        CHECK.due("possible then", Check.NOT_FOUND, y.fault(0));
        y.undo();
        dueFault("not possible again", y, 0, 2, Check.NOT_POSSIBLE);
    }

    /** "what: 0 ... 2"; INVALID_ARGUMENT rather than NOT_FOUND. */
    private static void somethingOfTheFaultThatThereIs() {
        dueFault("some", States.some(), 15, 1, 0);
        CHECK.outside("fault's what", 0, 2, States::some, LectureTurns::fault);
        CHECK.outside("fault's what of no text", 0, 2, States::empty, LectureTurns::fault);
        CHECK.outside("fault's what of no fault", 0, 2, States.text("s50;"), LectureTurns::fault);
    }

    /** "NOT_FOUND if the text has no fault (also if it is empty)" */
    private static void noFault() {
        for (int i = 0; i <= 2; i++) {
            int what = i;
            CHECK.refused("empty", Check.NOT_FOUND, States::empty, x -> x.fault(what));
            CHECK.refused("one order", Check.NOT_FOUND, States.text("s50;"), x -> x.fault(what));
            CHECK.refused("empty again", Check.NOT_FOUND, States.after(States::full, LectureTurns::clearText),
                    x -> x.fault(what));
            CHECK.refused("60 characters", Check.NOT_FOUND,
                    States.text("c1,2;c1,2;c1,2;c1,2;c1,2;c1,2;c1,2;c1,2;c1,2;c1,2;c1,2;c1,2;"), x -> x.fault(what));
        }
    }

    /** fault() is no change: what it tries out is not done, with a fault and without one. */
    private static void faultDoesNothing() {
        for (String text : new String[] {"s50;t0,9,50;w0,1;c1,2;s60;g0,1;", "s50;t0,9,50;w0,1;c1,2;s60;g0,1;x", "x"}) {
            for (int i = 0; i <= 2; i++) {
                int what = i;
                String difference = Same.difference(States.text(text),
                        States.after(States.text(text), x -> x.fault(what)));
                CHECK.holds("fault changes nothing, but " + difference, difference.isEmpty());
            }
        }
    }

    /** "They are one change, also if there are none." */
    private static void playNoOrders() {
        LectureTurns x = new LectureTurns();
        CHECK.due("play", 0, x.play());
        CHECK.due("states", 1, x.count(8));
        CHECK.due("undo", 0, x.undo());
        CHECK.due("nothing is left to undo", Check.NOT_POSSIBLE, x.undo());
        LectureTurns full = States.full();
        full.clearText();
        CHECK.due("play in a full state", 0, full.play());
        CHECK.due("terms", 160, full.count(2));
        CHECK.due("undo", 3, full.undo());
        CHECK.due("only play is undone", 160, full.count(2));
        CHECK.due("undo", 2, full.undo());
        CHECK.due("the last call before it", 159, full.count(2));
    }

    /** "Returns how many there are in it": 1, and 13, as there are 6 of four characters at most. */
    private static void playAsManyOrdersAsThereCanBe() {
        played("s50;", 1);
        LectureTurns x = played("c1,2;c2,3;c3,4;c4,5;c5,6;c6,7;c7,8;c8,9;c9,0;c1,2;c1,2;c1,3;", 12);
        CHECK.due("60 characters", 60, x.count(9));
        CHECK.due("the last one", 3, x.termOf(1, 0));
        CHECK.due("the ninth one", 0, x.termOf(9, 0));
        CHECK.due("states", 1, x.count(8));
        LectureTurns y = played("s50;s50;s50;s50;s50;s50;c1,2;c2,3;c3,4;c4,5;c5,6;c6,7;c7,8;", 13);
        CHECK.due("speakers", 6, y.count(1));
        CHECK.due("corrections", 7, y.count(3));
        CHECK.due("states", 1, y.count(8));
    }

    /** "Does all orders of the text, which stays. They are one change" */
    private static void playStaysAndIsOneChange() {
        LectureTurns x = States.after(States::some, LectureTurns::clearText).get();
        Check.type(x, "s100;w0,7;g2,1;");
        CHECK.due("play", 3, x.play());
        CHECK.due("the text stays", 15, x.count(9));
        CHECK.due("states", 4, x.count(8));
        CHECK.due("terms", 5, x.count(2));
        dueFault("the turn is theirs already", x, 10, 2, Check.NOT_POSSIBLE);
        CHECK.due("play again", Check.NOT_POSSIBLE, x.play());
        CHECK.due("undo", 3, x.undo());
        CHECK.due("all is undone: terms", 4, x.count(2));
        CHECK.due("all is undone: speakers", 2, x.count(1));
        CHECK.due("all is undone: the speaker of the turn", 0, x.turnOf(2, 3));
        CHECK.due("the text stays", 15, x.count(9));
        CHECK.due("play a second time", 3, x.play());
    }

    /** "NOT_POSSIBLE if it has a fault": nothing is done, also of the orders ahead of it. */
    private static void playRefusesAText() {
        CHECK.refused("some", Check.NOT_POSSIBLE, States::some, LectureTurns::play);
        CHECK.refused("full", Check.NOT_POSSIBLE, States::full, LectureTurns::play);
        CHECK.refused("at its last character", Check.NOT_POSSIBLE, States.text("s50;t0,9,50;w0,1;c1,2;s60;g0,1;x"),
                LectureTurns::play);
        CHECK.refused("in its last order", Check.NOT_POSSIBLE, States.text("s50;t0,9,50;w0,1;c1,2;s60;g0,2;"),
                LectureTurns::play);
        CHECK.refused("in its first order", Check.NOT_POSSIBLE, States.text("g0,2;s50;t0,9,50;w0,1;"),
                LectureTurns::play);
    }

    /** play at four states: "if there are 5 states then, the oldest one is dropped". */
    private static void playAtTheLimits() {
        LectureTurns x = States.text("s50;").get();
        for (int i = 1; i <= 6; i++) {
            CHECK.due("play " + i, 1, x.play());
            CHECK.due("states", Math.min(i, 4), x.count(8));
        }
        CHECK.due("the seventh speaker", Check.NOT_POSSIBLE, x.play());
        dueFault("the seventh speaker", x, 0, 2, Check.LIMIT);
        for (int left = 3; left >= 0; left--) {
            CHECK.due("undo", left, x.undo());
            CHECK.due("speakers", left + 2, x.count(1));
        }
    }
}

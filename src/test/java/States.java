import java.util.function.Supplier;

/** States that tests begin with. Each call makes a new object. */
final class States {
    private States() {
    }

    static LectureTurns empty() {
        return new LectureTurns();
    }

    /** Two speakers, four turns of which one has no speaker, a chain of corrections, a text and four states. */
    static LectureTurns some() {
        LectureTurns x = new LectureTurns();
        x.speaker(100);
        x.speaker(200);
        x.turn(10, 50, 110);
        x.turn(30, 40, 195);
        x.turn(45, 60, 90);
        x.turn(70, 80, 400);
        x.say(0, 3);
        x.say(0, 4);
        x.say(1, 3);
        x.say(3, 5);
        x.correct(3, 4);
        x.correct(4, 6);
        Check.type(x, "s100;w0,7;g2,1;x");
        return x;
    }

    /** All that there can be: 6 speakers, 20 turns with 8 terms each, 15 corrections, 4 states, 60 characters. */
    static LectureTurns full() {
        LectureTurns x = new LectureTurns();
        for (int k = 0; k < 6; k++) {
            x.speaker(50 + 90 * k);
        }
        for (int term = 14; term >= 0; term--) {
            x.correct(term, term + 1);
        }
        for (int i = 0; i < 20; i++) {
            x.turn(100 * i, Math.min(1999, 100 * i + 150), 50 + 90 * (i % 6));
            for (int k = 0; k < 8; k++) {
                x.say(i, (i + k) % 16);
            }
        }
        Check.type(x, "c14,15;c14,15;c14,15;c14,15;c14,15;c14,15;c14,15;c14,15;s50;");
        return x;
    }

    /** The state after some calls more. */
    static Supplier<LectureTurns> after(Supplier<LectureTurns> state, Call... calls) {
        return () -> {
            LectureTurns x = state.get();
            for (Call call : calls) {
                call.on(x);
            }
            return x;
        };
    }

    /** As many turns as told, all at once, without terms and speakers. */
    static Supplier<LectureTurns> turns(int number) {
        return () -> {
            LectureTurns x = new LectureTurns();
            for (int i = 0; i < number; i++) {
                x.turn(7, 9, 50 + i);
            }
            return x;
        };
    }

    static Supplier<LectureTurns> text(String text) {
        return () -> {
            LectureTurns x = new LectureTurns();
            Check.type(x, text);
            return x;
        };
    }
}

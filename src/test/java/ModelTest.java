import java.util.ArrayList;
import java.util.List;

/** Long runs of calls, whose answers are those of the model. */
public final class ModelTest {
    private static final int RUNS = 400;
    /** An object is used for at most 512 calls, and an order is typed by as many as it has characters. */
    private static final int CALLS = 512;
    private static final int MOST_OF_AN_ORDER = 20;

    private static final String[] NAMES = {"turn", "say", "part", "remove", "correct", "uncorrect", "speaker", "give",
        "join", "set", "turnOf", "termAt", "termOf", "speakerOf", "during", "interrupts", "nearest", "would",
        "together", "silence", "doubtful", "count", "undo", "type", "clearText", "fault", "play"};
    private static final int[] WEIGHTS = {20, 40, 20, 8, 12, 6, 8, 14, 4, 4, 30, 12, 25, 25, 8, 10, 6, 8,
        8, 8, 8, 25, 5, 15, 10, 12, 12};
    private static final int[] EDGES = {Integer.MIN_VALUE, Integer.MAX_VALUE, -1, 0, 1, 6, 8, 15, 16, 20, 21, 49, 50,
        200, 201, 500, 501, 1998, 1999, 2000, 9999};

    private long seed;
    private int span;

    public static void main(String[] args) {
        for (int run = 1; run <= RUNS; run++) {
            new ModelTest(run).compare(run);
        }
    }

    private ModelTest(int run) {
        seed = run * 7919L + 13;
        span = run % 3 == 0 ? 30 : run % 3 == 1 ? 300 : 2000;
    }

    private int below(int bound) {
        seed = seed * 6364136223846793005L + 1442695040888963407L;
        return (int) ((seed >>> 33) % bound);
    }

    private void compare(int run) {
        LectureTurns x = new LectureTurns();
        Model model = new Model();
        List<String> calls = new ArrayList<>();
        for (int i = 0; i < CALLS; i++) {
            String name = anyName();
            if (name.equals("type") && below(10) > 0 && i + MOST_OF_AN_ORDER <= CALLS) {
                i += typeOrder(run, x, model, calls) - 1;
                continue;
            }
            int[] a = name.equals("part") ? argumentsOfPart(model) : arguments(name);
            for (int k = 0; k < 3; k++) {
                a[k] = below(40) == 0 ? EDGES[below(EDGES.length)] : a[k];
            }
            same(run, x, model, calls, name, a);
        }
    }

    private void same(int run, LectureTurns x, Model model, List<String> calls, String name, int[] a) {
        int want = model.call(name, a[0], a[1], a[2]);
        int got = call(x, name, a[0], a[1], a[2]);
        calls.add(name + "(" + a[0] + ", " + a[1] + ", " + a[2] + ") = " + got);
        if (got != want) {
            System.out.println("run " + run + ": due is " + want + " for the last of");
            calls.forEach(System.out::println);
            System.exit(1);
        }
    }

    private int typeOrder(int run, LectureTurns x, Model model, List<String> calls) {
        String order = anyOrder();
        for (char sign : order.toCharArray()) {
            same(run, x, model, calls, "type", new int[] {sign, 0, 0});
        }
        return order.length();
    }

    private String anyOrder() {
        String order;
        switch (below(5)) {
            case 0:
                int begin = below(span);
                order = "t" + begin + "," + Math.min(1999, begin + 1 + below(span)) + "," + pitch() + ";";
                break;
            case 1:
                order = "w" + below(6) + "," + below(17) + ";";
                break;
            case 2:
                order = "c" + below(17) + "," + below(16) + ";";
                break;
            case 3:
                order = "s" + String.format("%04d", pitch()) + ";";
                break;
            default:
                order = "g" + below(6) + "," + below(4) + ";";
        }
        if (below(25) == 0) {
            int at = below(order.length());
            return order.substring(0, at) + "twcsg,;09x ".charAt(below(11)) + order.substring(at);
        }
        return order;
    }

    private String anyName() {
        int sum = 0;
        for (int weight : WEIGHTS) {
            sum += weight;
        }
        int at = below(sum);
        int k = 0;
        while (at >= WEIGHTS[k]) {
            at -= WEIGHTS[k];
            k++;
        }
        return NAMES[k];
    }

    private int pitch() {
        return below(4) == 0 ? 50 + below(451) : 90 + below(120);
    }

    /** Mostly a time inside the turn, as other ones are refused. */
    private int[] argumentsOfPart(Model model) {
        int place = below(8);
        int begin = Math.max(0, model.call("turnOf", place, 0, 0));
        int end = Math.max(begin + 1, model.call("turnOf", place, 1, 0));
        return new int[] {place, begin + below(end - begin + 1), below(4)};
    }

    private int[] arguments(String name) {
        int place = below(below(3) == 0 ? 21 : 8);
        switch (name) {
            case "turn": {
                int begin = below(Math.min(span, 1999));
                return new int[] {begin, begin + 1 + below(span / 5), pitch()};
            }
            case "say": return new int[] {place, below(below(2) == 0 ? 16 : 5), 0};
            case "remove": return new int[] {place, 0, 0};
            case "correct":
            case "would": return new int[] {below(below(2) == 0 ? 16 : 6), below(below(2) == 0 ? 16 : 6), 0};
            case "uncorrect": return new int[] {below(16), 0, 0};
            case "speaker":
            case "nearest": return new int[] {pitch(), 0, 0};
            case "give": return new int[] {place, below(7), 0};
            case "join":
            case "interrupts": return new int[] {below(6), below(6), 0};
            case "set": return new int[] {0, below(201), 0};
            case "turnOf": return new int[] {place, below(9), 0};
            case "termAt": return new int[] {place, below(5), below(2)};
            case "termOf": return new int[] {below(16), below(7), 0};
            case "speakerOf": return new int[] {below(6), below(7), 0};
            case "during": return new int[] {below(span), below(2), 0};
            case "count": return new int[] {below(10) == 0 ? 20 : below(11), 0, 0};
            case "type": return new int[] {"twcsg,;0123456789".charAt(below(17)), 0, 0};
            default: return new int[] {below(3), 0, 0};
        }
    }

    private static int call(LectureTurns x, String name, int a, int b, int c) {
        switch (name) {
            case "turn": return x.turn(a, b, c);
            case "say": return x.say(a, b);
            case "part": return x.part(a, b, c);
            case "remove": return x.remove(a);
            case "correct": return x.correct(a, b);
            case "uncorrect": return x.uncorrect(a);
            case "speaker": return x.speaker(a);
            case "give": return x.give(a, b);
            case "join": return x.join(a, b);
            case "set": return x.set(a, b);
            case "turnOf": return x.turnOf(a, b);
            case "termAt": return x.termAt(a, b, c);
            case "termOf": return x.termOf(a, b);
            case "speakerOf": return x.speakerOf(a, b);
            case "during": return x.during(a, b);
            case "interrupts": return x.interrupts(a, b);
            case "nearest": return x.nearest(a);
            case "would": return x.would(a, b);
            case "together": return x.together(a);
            case "silence": return x.silence(a);
            case "doubtful": return x.doubtful(a);
            case "count": return x.count(a);
            case "undo": return x.undo();
            case "type": return x.type(a);
            case "clearText": return x.clearText();
            case "fault": return x.fault(a);
            case "play": return x.play();
            default: throw new IllegalArgumentException(name);
        }
    }
}

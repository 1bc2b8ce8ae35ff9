import java.util.Arrays;
import java.util.Random;

/** Long runs of calls, the same each time, whose answers are compared with those of PlainModel. */
public final class ModelTest {
    private static final int RUNS = 400, CALLS = 512;
    private static final int[] FAR = {Integer.MIN_VALUE, Integer.MAX_VALUE, -1, 61, 1 << 30};
    /** Each call with what its arguments are: see argument(). */
    private static final String[] CALLS_TO = {
        "harbour klin", "ofPerson pw", "train pd", "learn pd", "game ppxx", "game ppxx", "shy pp", "fetch p", "fetch p",
        "season klinw", "safe pp", "sure p", "common pp", "pairs q", "orders klinq", "drops klin", "reading ppho",
        "back b", "strengths p", "feints p", "kinds p", "odds pph", "sheet kln", "lose k", "put kiv", "cell kil",
        "copy kikin", "tell p", "wave p", "as po", "trace ", "fault ", "many w",
    };

    private final Random random;
    private final Due due;
    private final WinnersLeave real = new WinnersLeave();
    private final PlainModel model = new PlainModel();
    private int calls = 0;

    private ModelTest(int seed, Due due) {
        this.random = new Random(seed);
        this.due = due;
    }

    public static void main(String[] args) {
        Due due = new Due("ModelTest");
        for (int seed = 0; seed < RUNS && !due.anyWrong(); seed++) {
            new ModelTest(seed, due).run();
        }
        due.end();
    }

    private void run() {
        boolean soon = random.nextInt(8) != 0;
        while (calls < CALLS && !due.anyWrong()) {
            int turn = random.nextInt(40);
            if (soon || turn == 0) {
                tellHarbour();
                soon = false;
            } else if (turn <= 3) {
                tellSeason();
            } else if (turn <= 6) {
                tellTwos();
            } else if (turn <= 8) {
                askAll();
            } else {
                String[] one = CALLS_TO[random.nextInt(CALLS_TO.length)].split(" ", 2);
                int[] arguments = new int[one[1].length()];
                for (int j = 0; j < arguments.length; j++) {
                    arguments[j] = argument(one[1].charAt(j));
                }
                call(one[0], arguments);
            }
        }
    }

    private int argument(char what) {
        if (random.nextInt(60) == 0) {
            return FAR[random.nextInt(FAR.length)];
        }
        switch (what) {
            case 'k': return random.nextInt(40) == 0 ? random.nextInt(6) - 1 : random.nextInt(4);
            case 'l': return random.nextInt(20) == 0 ? random.nextInt(5) - 1 : random.nextInt(3);
            case 'i': return random.nextInt(14) - 1;
            case 'n': return random.nextInt(14) - 1;
            case 'p': return random.nextInt(20) == 0 ? random.nextInt(8) - 1 : random.nextInt(4);
            case 'q': return random.nextInt(10) - 2;
            case 'd': return random.nextInt(12) - 1;
            case 'x': return random.nextInt(10);
            case 'w': return random.nextInt(18) - 1;
            case 'h': return random.nextInt(12) == 0 ? random.nextInt(4) - 1 : random.nextInt(2);
            case 'o': return random.nextInt(12) == 0 ? random.nextInt(5) - 1 : random.nextInt(3);
            case 'b': return random.nextInt(4) - 1;
            default: return random.nextInt(400) - 200;
        }
    }

    private void row(int k, int lane, int... cells) {
        call("sheet", k, lane, cells.length);
        for (int i = 0; i < cells.length; i++) {
            call("put", k, i, cells[i]);
        }
    }

    private void tellHarbour() {
        StringBuilder text = new StringBuilder("v");
        int people = random.nextInt(6) == 0 ? random.nextInt(9) : 2 + random.nextInt(5);
        for (int p = 0; p < people; p++) {
            text.append(';').append("plc".charAt(random.nextInt(3)));
            text.append(random.nextInt(10)).append(random.nextInt(10));
        }
        int[] codes = text.chars().toArray();
        if (random.nextInt(4) == 0) {
            codes[random.nextInt(codes.length)] = "v;plc059x/:".charAt(random.nextInt(11));
        }
        int from = random.nextInt(3);
        int[] cells = new int[from + codes.length];
        System.arraycopy(codes, 0, cells, from, codes.length);
        int lane = random.nextInt(3);
        row(3, lane, cells);
        int n = random.nextInt(5) == 0 ? random.nextInt(codes.length + 1) : codes.length;
        call("harbour", 3, lane, from, n);
        for (int p = -1; p < 7; p++) {
            call("ofPerson", p, 1 + random.nextInt(4));
        }
    }

    private void tellSeason() {
        int n = random.nextInt(8);
        int[] cells = new int[2 * n];
        for (int j = 0; j < n; j++) {
            cells[2 * j] = argument('p');
            int act = random.nextInt(12);
            cells[2 * j + 1] = act < 6 ? random.nextInt(5) : act < 8 ? 10 : act < 11 ? 20 + random.nextInt(10)
                : random.nextInt(32) - 1;
        }
        int lane = random.nextInt(3);
        row(1, lane, cells);
        for (int what : new int[] {0, 1, 2, 3, 4, 10, 11, 12, 13, 14, 15}) {
            call("season", 1, lane, 0, random.nextInt(n + 1), what);
        }
    }

    private void tellTwos() {
        int n = random.nextInt(11);
        int[] cells = new int[2 * n];
        int among = 2 + random.nextInt(5);
        for (int j = 0; j < n; j++) {
            cells[2 * j] = random.nextInt(among);
            cells[2 * j + 1] = (cells[2 * j] + 1 + random.nextInt(among - 1)) % among;
        }
        int lane = random.nextInt(3);
        row(2, lane, cells);
        for (int k = -1; k < 6; k++) {
            call("orders", 2, lane, 0, random.nextInt(n + 1), k);
        }
        call("drops", 2, lane, 0, n);
        call("drops", 2, lane, 0, random.nextInt(n + 1));
    }

    private void askAll() {
        for (int k = -1; k < 6; k++) {
            call("pairs", k);
        }
        for (int p = 0; p < 6; p++) {
            call("sure", p);
            call("strengths", p);
            call("feints", p);
            call("kinds", p);
            call("ofPerson", p, 5);
        }
        for (int what = 0; what < 4; what++) {
            call("many", what);
        }
        call("trace");
    }

    private void call(String name, int... arguments) {
        if (calls >= CALLS || due.anyWrong()) {
            return;
        }
        calls++;
        long got = Due.call(real, name, arguments);
        due.is(calls + "th call " + name + Arrays.toString(arguments), got, Due.call(model, name, arguments));
        due.is("fault() after " + name + Arrays.toString(arguments), real.fault(), model.fault());
    }
}

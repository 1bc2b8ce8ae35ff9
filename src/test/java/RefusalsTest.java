import java.util.Arrays;
import java.util.Set;
import java.util.function.Supplier;

/**
 * What each call refuses and which faults it comes to, in the document's order: just beyond each boundary with
 * all that comes later in the call's line wrong, too; then just at it. By refusals and faults nothing that can be
 * asked changes but fault(), and that only by calls that name FAULTS.
 */
public final class RefusalsTest {
    private static final int UNKNOWN = WinnersLeave.UNKNOWN, OUTSIDE = WinnersLeave.OUTSIDE;
    private static final int STATE = WinnersLeave.STATE, FULL = WinnersLeave.FULL, NONE = WinnersLeave.NONE;
    private static final int NULL = -11, CAST = -12, INDEX = -13, SIZE = -14;
    private static final int LOW = Integer.MIN_VALUE, HIGH = Integer.MAX_VALUE;
    private static final Set<String> NAME_FAULTS =
        Set.of("harbour", "season", "orders", "drops", "sheet", "put", "cell", "copy", "as");
    private static final Supplier<WinnersLeave> TOWN = RefusalsTest::town, BARE = RefusalsTest::bare,
        FULL_TOWN = RefusalsTest::fullTown;
    private static final Due DUE = new Due("RefusalsTest");

    public static void main(String[] args) {
        withoutHarbour();
        harbour();
        people();
        games();
        season();
        seasonPairByPair();
        twoPeople();
        pairs();
        ordersAndDrops();
        twosTwoByTwo();
        readings();
        traits();
        sheets();
        cells();
        copy();
        kinds();
        many();
        DUE.end();
    }

    /** Sheet 0 has nothing, 1 has 24 shorts: twelve times 0 beat 1, 2 has 42 ints: 21 times 0 learns 2, 3 has no bytes. */
    private static WinnersLeave bare() {
        WinnersLeave x = new WinnersLeave();
        int[] twos = new int[24];
        int[] acts = new int[42];
        for (int i = 1; i < acts.length; i += 2) {
            acts[i] = 22;
            if (i < twos.length) {
                twos[i] = 1;
            }
        }
        Due.row(x, 1, 1, twos);
        Due.row(x, 2, 2, acts);
        x.sheet(3, 0, 0);
        return x;
    }

    /** WORST .. BEST: 3 .. 5, 3 .. 4, 4 .. 4, 7 .. 7; 2 is gone; two readings. */
    private static WinnersLeave town() {
        WinnersLeave x = bare();
        Due.harbour(x, "v;p52;l31;c20;p70");
        x.sheet(3, 0, 0);
        x.shy(2, 1);
        x.reading(0, 1, 1, 1);
        x.reading(3, 0, 0, 2);
        x.tell(1);
        return x;
    }

    private static WinnersLeave fullTown() {
        WinnersLeave x = town();
        for (int r = 2; r < 8; r++) {
            x.reading(3, r % 3, 0, 2);
        }
        return x;
    }

    private static void fault(WinnersLeave x, int which) {
        long lost = which == 3 ? x.put(2, 42, 0) : x.cell(2, 0, 0);
        DUE.is("a fault ahead, by " + lost, x.fault(), which);
    }

    private static void answers(Supplier<WinnersLeave> of, boolean changes, String name, long due, int fault, int... args) {
        String told = name + Arrays.toString(args);
        for (int before = 2; before <= 3; before++) {
            WinnersLeave x = of.get();
            fault(x, before);
            DUE.is(told, Due.call(x, name, args), due);
            DUE.is("fault() after " + told, x.fault(), NAME_FAULTS.contains(name) ? fault : before);
            if (!changes) {
                DUE.alike("all after " + told, Asked.all(x), Asked.all(of.get()));
            }
        }
    }

    /** A refusal, or a fault (-11 .. -14): it changes nothing. */
    private static void refused(Supplier<WinnersLeave> of, String name, int due, int... args) {
        answers(of, false, name, due, due <= NULL && due >= SIZE ? -10 - due : 0, args);
    }

    private static void refused(String name, int due, int... args) {
        refused(TOWN, name, due, args);
    }

    /** A call that is answered and changes nothing. */
    private static void asked(Supplier<WinnersLeave> of, String name, int due, int... args) {
        answers(of, false, name, due, 0, args);
    }

    private static void asked(String name, int due, int... args) {
        asked(TOWN, name, due, args);
    }

    /** A call whose refusals and faults are LOST; fault() tells which it was (0 a refusal). */
    private static void lost(String name, int fault, int... args) {
        answers(TOWN, false, name, WinnersLeave.LOST, fault, args);
    }

    private static void taken(Supplier<WinnersLeave> of, String name, int due, int... args) {
        answers(of, true, name, due, 0, args);
    }

    private static void taken(String name, int due, int... args) {
        taken(TOWN, name, due, args);
    }

    // Promise 1: no PEOPLE. Promise 32: 0 all without a HARBOUR.
    private static void withoutHarbour() {
        refused(BARE, "ofPerson", UNKNOWN, 0, 0);
        refused(BARE, "train", UNKNOWN, 0, 0);
        refused(BARE, "learn", UNKNOWN, 0, 0);
        refused(BARE, "game", UNKNOWN, 0, 1, 0, 0);
        refused(BARE, "reading", UNKNOWN, 0, 1, 0, 0);
        for (String name : new String[] {"fetch", "sure", "strengths", "feints", "kinds", "tell", "wave"}) {
            refused(BARE, name, UNKNOWN, 0);
        }
        for (String name : new String[] {"shy", "safe", "common"}) {
            refused(BARE, name, UNKNOWN, 0, 1);
        }
        refused(BARE, "as", UNKNOWN, 0, 0);
        answers(BARE, false, "odds", WinnersLeave.LOST, 0, 0, 1, 0);
        for (int what = 0; what < 4; what++) {
            asked(BARE, "many", 0, what);
        }
    }

    private static void harbour() {
        for (int sheet : new int[] {-1, 4, LOW, HIGH}) {
            refused("harbour", UNKNOWN, sheet, 3, -1, -1);
        }
        for (int lane : new int[] {-1, 3, LOW, HIGH}) {
            refused("harbour", OUTSIDE, 0, lane, -1, -1);
            refused("harbour", OUTSIDE, 1, lane, -1, -1);
        }
        refused("harbour", CAST, 1, 0, -1, -1);
        refused("harbour", CAST, 1, 2, 25, 0);
        refused("harbour", CAST, 3, 1, 0, -1);
        for (int lane = 0; lane < 3; lane++) {
            refused("harbour", NULL, 0, lane, -1, -1);
        }
        refused("harbour", SIZE, 1, 1, -1, -1);
        refused("harbour", SIZE, 1, 1, 25, LOW);
        refused("harbour", SIZE, 3, 0, 0, -1);
        int[][] beyond = {{0, 25}, {24, 1}, {1, 24}, {-1, 1}, {-1, 0}, {25, 0}, {LOW, 0}, {HIGH, HIGH}, {1, HIGH}};
        for (int[] r : beyond) {
            refused("harbour", INDEX, 1, 1, r[0], r[1]);
        }
        refused("harbour", INDEX, 3, 0, 0, 1);
        refused("harbour", INDEX, 3, 0, 1, 0);
        refused("harbour", INDEX, 3, 0, -1, 0);
        for (int[] r : new int[][] {{0, 24}, {23, 1}, {24, 0}, {0, 0}}) {
            refused("harbour", -100, 1, 1, r[0], r[1]);
        }
        refused("harbour", -100, 3, 0, 0, 0);
    }

    private static void people() {
        for (int p : new int[] {-1, 4, 5, 6, LOW, HIGH}) {
            refused("ofPerson", UNKNOWN, p, 6);
            refused("ofPerson", UNKNOWN, p, 0);
            refused("train", UNKNOWN, p, 10);
            refused("train", UNKNOWN, p, 0);
            refused("learn", UNKNOWN, p, 10);
            refused("learn", UNKNOWN, p, 0);
        }
        for (int p = 0; p < 4; p += 3) {
            for (int wrong : new int[] {-1, LOW, HIGH}) {
                refused("ofPerson", OUTSIDE, p, wrong);
                refused("train", OUTSIDE, p, wrong);
                refused("learn", OUTSIDE, p, wrong);
            }
            refused("ofPerson", OUTSIDE, p, 6);
            refused("train", OUTSIDE, p, 10);
            refused("learn", OUTSIDE, p, 10);
            taken("ofPerson", 0, p, 0);
            taken("ofPerson", 0, p, 5);
            taken("train", p == 0 ? 5 : 7, p, 0);
            taken("train", p == 0 ? 5 : 7, p, 9);
            taken("learn", p == 0 ? 2 : 0, p, 0);
            taken("learn", p == 0 ? 2 : 0, p, 9);
        }
    }

    private static void games() {
        for (int[] two : new int[][] {{-1, 2}, {2, -1}, {4, 2}, {2, 4}, {1, 1}, {2, 2}, {LOW, 2}, {2, HIGH}}) {
            refused("game", UNKNOWN, two[0], two[1], -1, 99);
            refused("shy", UNKNOWN, two[0], two[1]);
        }
        for (int[] play : new int[][] {{2, 3}, {6, 3}, {3, 2}, {3, 5}, {LOW, 3}, {HIGH, 3}, {3, LOW}, {3, HIGH}}) {
            refused("game", OUTSIDE, 0, 1, play[0], play[1]);
        }
        refused("game", OUTSIDE, 2, 0, 3, 3);
        refused("game", OUTSIDE, 2, 0, 5, 3);
        refused("game", OUTSIDE, 0, 2, 3, 3);
        refused("game", OUTSIDE, 0, 2, 6, 4);
        refused("game", STATE, 2, 0, 4, 3);
        refused("game", STATE, 0, 2, 5, 4);
        refused("shy", STATE, 2, 0);
        refused("shy", STATE, 0, 2);
        taken("game", NONE, 0, 1, 3, 3);
        taken("game", 0, 0, 1, 5, 4);
        taken("game", 1, 0, 1, 3, 4);
        taken("shy", NONE, 0, 1);
        for (int p : new int[] {-1, 4, LOW, HIGH}) {
            refused("fetch", UNKNOWN, p);
        }
        refused("fetch", STATE, 0);
        refused("fetch", STATE, 3);
        taken("fetch", 0, 2);
    }

    private static void season() {
        for (int sheet : new int[] {-1, 4, LOW, HIGH}) {
            refused("season", UNKNOWN, sheet, 3, -1, 21, 5);
        }
        for (int lane : new int[] {-1, 3, LOW, HIGH}) {
            refused("season", OUTSIDE, 0, lane, -1, 0, 0);
        }
        for (int n : new int[] {-1, 21, LOW, HIGH}) {
            refused("season", OUTSIDE, 0, 0, -1, n, 0);
            refused("season", OUTSIDE, 2, 2, 0, n, 0);
        }
        for (int what : new int[] {-1, 5, 9, 16, LOW, HIGH}) {
            refused("season", OUTSIDE, 0, 0, -1, 0, what);
        }
        refused("season", CAST, 1, 0, -1, 1, 0);
        refused("season", CAST, 1, 2, 25, 0, 0);
        refused("season", NULL, 0, 2, -1, 1, 0);
        for (int[] r : new int[][] {{-1, 0}, {43, 0}, {-1, 1}, {41, 1}, {42, 1}, {3, 20}, {LOW, 20}, {HIGH, 20}}) {
            refused("season", INDEX, 2, 2, r[0], r[1], 0);
            refused(BARE, "season", INDEX, 2, 2, r[0], r[1], 0);
        }
        refused("season", INDEX, 3, 0, 0, 1, 0);
        refused(BARE, "season", CAST, 2, 1, 0, 1, 0);
        refused(BARE, "season", NULL, 0, 1, 0, 1, 0);
        refused(BARE, "season", STATE, 2, 2, 0, 20, 0);
        refused(BARE, "season", STATE, 2, 2, 1, 1, 0);
        refused(BARE, "season", STATE, 3, 0, 0, 0, 0);
        for (int[] r : new int[][] {{42, 0}, {40, 1}, {2, 20}, {0, 20}, {0, 0}}) {
            asked("season", 3, 2, 2, r[0], r[1], 0);
        }
        asked("season", 3, 3, 0, 0, 0, 0);
        int[] asked = {0, 1, 2, 3, 4, 10, 11, 12, 13, 14, 15};
        int[] due = {3, NONE, 0b100, 0, NONE, 0, 0, 0, 0, NONE, NONE};
        for (int j = 0; j < asked.length; j++) {
            asked("season", due[j], 2, 2, 0, 20, asked[j]);
        }
    }

    private static Supplier<WinnersLeave> townWith(int... cells) {
        return () -> {
            WinnersLeave x = town();
            Due.row(x, 3, 2, cells);
            return x;
        };
    }

    // season: pair by pair OUTSIDE: the second is none of 0 .. 5, 10, 20 .. 29; UNKNOWN: the first is no PERSON.
    private static void seasonPairByPair() {
        for (int act : new int[] {-1, 6, 9, 11, 19, 30, LOW, HIGH}) {
            refused(townWith(0, 22, 4, act), "season", OUTSIDE, 3, 2, 0, 2, 1);
            refused(townWith(0, 22, 0, act), "season", OUTSIDE, 3, 2, 0, 2, 1);
            refused(townWith(4, 0, 0, act), "season", UNKNOWN, 3, 2, 0, 2, 1);
            asked(townWith(0, 22, 0, act), "season", NONE, 3, 2, 0, 1, 1);
        }
        for (int p : new int[] {-1, 4, 5, 6, LOW, HIGH}) {
            for (int act : new int[] {0, 5, 10, 20, 29}) {
                refused(townWith(0, 22, p, act), "season", UNKNOWN, 3, 2, 0, 2, 1);
            }
            refused(townWith(0, 30, p, 0), "season", OUTSIDE, 3, 2, 0, 2, 1);
        }
        // at the boundary each second is taken: an act that can't be is wrong, not refused
        int[] acts = {0, 1, 2, 3, 4, 5, 10, 20, 29};
        int[] due = {0, NONE, 0, NONE, 0, 0, 0, NONE, NONE};
        for (int j = 0; j < acts.length; j++) {
            asked(townWith(0, acts[j]), "season", due[j], 3, 2, 0, 1, 1);
        }
        asked(townWith(2, 10), "season", NONE, 3, 2, 0, 1, 1);
        asked(townWith(3, 1), "season", NONE, 3, 2, 0, 1, 1);
    }

    private static void twoPeople() {
        for (int[] two : new int[][] {{-1, 0}, {0, -1}, {4, 0}, {0, 4}, {3, 3}, {LOW, 0}, {0, HIGH}}) {
            refused("safe", UNKNOWN, two[0], two[1]);
            refused("common", UNKNOWN, two[0], two[1]);
            lost("odds", 0, two[0], two[1], 0);
            lost("odds", 0, two[0], two[1], 2);
        }
        for (int which : new int[] {-1, 2, LOW, HIGH}) {
            lost("odds", 0, 0, 1, which);
        }
        asked("safe", 1, 0, 3);
        asked("safe", 0, 3, 0);
        asked("common", 2, 0, 1);
        asked("odds", 1, 3, 0, 0);
        asked("odds", 1, 3, 0, 1);
        for (int p : new int[] {-1, 4, LOW, HIGH}) {
            refused("sure", UNKNOWN, p);
        }
        asked("sure", 0, 0);
        asked("sure", 0b11, 3);
    }

    private static void pairs() {
        for (int k : new int[] {-2, 6, LOW, HIGH}) {
            refused("pairs", OUTSIDE, k);
            refused(BARE, "pairs", OUTSIDE, k);
        }
        int[] due = {0, 1, 0, NONE, NONE, NONE, NONE};
        for (int k = -1; k < 6; k++) {
            refused(BARE, "pairs", STATE, k);
            asked("pairs", due[k + 1], k);
        }
    }

    private static void rowOfTwos(Supplier<WinnersLeave> of, int due, int sheet, int lane, int i, int n) {
        refused(of, "drops", due, sheet, lane, i, n);
        refused(of, "orders", due, sheet, lane, i, n, -1);
        refused(of, "orders", due, sheet, lane, i, n, 5);
    }

    private static void ordersAndDrops() {
        for (int sheet : new int[] {-1, 4, LOW, HIGH}) {
            rowOfTwos(TOWN, UNKNOWN, sheet, 3, -1, 11);
            refused("orders", UNKNOWN, sheet, 3, -1, 11, 6);
        }
        for (int wrong : new int[] {-1, LOW, HIGH}) {
            rowOfTwos(TOWN, OUTSIDE, 0, wrong, -1, 0);
            rowOfTwos(TOWN, OUTSIDE, 0, 0, -1, wrong);
        }
        rowOfTwos(TOWN, OUTSIDE, 0, 3, -1, 0);
        rowOfTwos(TOWN, OUTSIDE, 0, 0, -1, 11);
        rowOfTwos(TOWN, OUTSIDE, 1, 1, 0, 11);
        rowOfTwos(BARE, OUTSIDE, 1, 1, 0, 11);
        for (int k : new int[] {-2, 6, LOW, HIGH}) {
            refused("orders", OUTSIDE, 0, 0, -1, 0, k);
            refused("orders", OUTSIDE, 1, 1, 0, 1, k);
        }
        rowOfTwos(TOWN, CAST, 1, 0, -1, 1);
        rowOfTwos(TOWN, CAST, 1, 2, 25, 0);
        rowOfTwos(TOWN, NULL, 0, 1, -1, 1);
        for (int[] r : new int[][] {{-1, 0}, {25, 0}, {-1, 1}, {23, 1}, {24, 1}, {5, 10}, {LOW, 10}, {HIGH, 10}}) {
            rowOfTwos(TOWN, INDEX, 1, 1, r[0], r[1]);
            rowOfTwos(BARE, INDEX, 1, 1, r[0], r[1]);
        }
        rowOfTwos(TOWN, INDEX, 3, 0, 0, 1);
        rowOfTwos(BARE, CAST, 1, 2, 0, 1);
        rowOfTwos(BARE, NULL, 0, 1, 0, 1);
        rowOfTwos(BARE, STATE, 1, 1, 0, 10);
        rowOfTwos(BARE, STATE, 3, 0, 0, 0);
        for (int[] r : new int[][] {{4, 10}, {22, 1}, {0, 10}}) {
            asked("drops", 0, 1, 1, r[0], r[1]);
            asked("orders", 12, 1, 1, r[0], r[1], -1);
            asked("orders", 0, 1, 1, r[0], r[1], 0);
            asked("orders", 3, 1, 1, r[0], r[1], 3);
            asked("orders", NONE, 1, 1, r[0], r[1], 4);
            asked("orders", NONE, 1, 1, r[0], r[1], 5);
        }
        for (int i : new int[] {0, 24}) {
            asked("drops", 0, 1, 1, i, 0);
            asked("orders", 24, 1, 1, i, 0, -1);
        }
    }

    // orders, drops: two by two UNKNOWN: either is no PERSON, both are the same.
    private static void twosTwoByTwo() {
        for (int[] two : new int[][] {{-1, 0}, {0, -1}, {4, 0}, {0, 4}, {0, 0}, {3, 3}, {LOW, 0}, {0, HIGH}}) {
            rowOfTwos(townWith(two[0], two[1], 0, 1), UNKNOWN, 3, 2, 0, 2);
            rowOfTwos(townWith(0, 1, two[0], two[1]), UNKNOWN, 3, 2, 0, 2);
            asked(townWith(0, 1, two[0], two[1]), "drops", 0, 3, 2, 0, 1);
            asked(townWith(0, 1, two[0], two[1]), "orders", 12, 3, 2, 0, 1, -1);
        }
        asked(townWith(0, 3, 3, 0), "drops", 1, 3, 2, 0, 2);
        asked(townWith(0, 3, 3, 0), "orders", 0, 3, 2, 0, 2, -1);
    }

    private static void readings() {
        for (int[] two : new int[][] {{-1, 0}, {0, -1}, {4, 0}, {0, 4}, {3, 3}, {LOW, 0}, {0, HIGH}}) {
            refused("reading", UNKNOWN, two[0], two[1], 2, 3);
            refused(FULL_TOWN, "reading", UNKNOWN, two[0], two[1], 2, 3);
        }
        for (int wrong : new int[] {-1, 3, LOW, HIGH}) {
            refused("reading", OUTSIDE, 0, 1, 0, wrong);
            refused("reading", OUTSIDE, 0, 1, wrong, 0);
            refused(FULL_TOWN, "reading", OUTSIDE, 0, 1, 0, wrong);
            refused(FULL_TOWN, "reading", OUTSIDE, 0, 1, wrong, 0);
        }
        refused("reading", OUTSIDE, 0, 1, 2, 0);
        refused(FULL_TOWN, "reading", OUTSIDE, 0, 1, 2, 0);
        for (int how = 0; how < 2; how++) {
            for (int result = 0; result < 3; result++) {
                taken("reading", 2, 2, 3, how, result);
                refused(FULL_TOWN, "reading", FULL, 2, 3, how, result);
            }
        }
        for (int n : new int[] {-1, 3, 8, LOW, HIGH}) {
            refused("back", OUTSIDE, n);
        }
        asked("back", 2, 0);
        taken("back", 1, 1);
        taken("back", 0, 2);
        refused(FULL_TOWN, "back", OUTSIDE, 9);
        taken(FULL_TOWN, "back", 0, 8);
        refused(BARE, "back", OUTSIDE, -1);
        refused(BARE, "back", OUTSIDE, 1);
        asked(BARE, "back", 0, 0);
    }

    private static void traits() {
        for (String name : new String[] {"strengths", "feints", "kinds", "tell", "wave"}) {
            for (int p : new int[] {-1, 4, 5, LOW, HIGH}) {
                refused(name, UNKNOWN, p);
            }
        }
        asked("strengths", 0b0000100000, 0);
        asked("strengths", 0b1111000000, 3);
        asked("feints", 0b0000000100, 0);
        asked("kinds", 0b111, 3);
        taken("tell", 7, 3);
        taken("wave", 0, 3);
    }

    private static void sheets() {
        for (int k : new int[] {-1, 4, LOW, HIGH}) {
            refused("sheet", UNKNOWN, k, 3, 61);
            refused("sheet", UNKNOWN, k, 0, -1);
            refused("lose", UNKNOWN, k);
            refused("put", UNKNOWN, k, -1, 0);
        }
        for (int lane : new int[] {-1, 3, LOW, HIGH}) {
            refused("sheet", OUTSIDE, 1, lane, -1);
            refused("sheet", OUTSIDE, 0, lane, 1);
        }
        for (int k = 0; k < 4; k++) {
            refused("sheet", OUTSIDE, k, 0, 61);
            refused("sheet", OUTSIDE, k, 2, HIGH);
            refused("sheet", SIZE, k, 0, -1);
            refused("sheet", SIZE, k, 2, LOW);
            for (int lane = 0; lane < 3; lane++) {
                taken("sheet", 1, k, lane, 0);
                taken("sheet", 1, k, lane, 60);
            }
        }
        asked("lose", 0, 0);
        taken("lose", 1, 1);
        taken("lose", 1, 3);
    }

    private static void cells() {
        for (int i : new int[] {-1, 0, 60, LOW, HIGH}) {
            refused("put", NULL, 0, i, 7);
            for (int lane = 0; lane < 3; lane++) {
                lost("cell", 1, 0, i, lane);
            }
        }
        for (int i : new int[] {-1, 24, 25, 60, LOW, HIGH}) {
            refused("put", INDEX, 1, i, 7);
            lost("cell", 3, 1, i, 1);
            lost("cell", 2, 1, i, 0);
            lost("cell", 2, 1, i, 2);
        }
        refused("put", INDEX, 3, 0, 7);
        lost("cell", 3, 3, 0, 0);
        lost("cell", 2, 3, 0, 1);
        for (int k : new int[] {-1, 4, LOW, HIGH}) {
            lost("cell", 0, k, -1, 3);
        }
        for (int lane : new int[] {-1, 3, LOW, HIGH}) {
            lost("cell", 0, 0, -1, lane);
            lost("cell", 0, 1, -1, lane);
        }
        taken("put", 1, 1, 0, 7);
        taken("put", 1, 1, 23, 7);
        asked("cell", 0, 1, 0, 1);
        asked("cell", 1, 1, 23, 1);
    }

    private static void copy() {
        for (int k : new int[] {-1, 4, LOW, HIGH}) {
            refused("copy", UNKNOWN, k, -1, 0, -1, -1);
            refused("copy", UNKNOWN, 0, -1, k, -1, -1);
        }
        refused("copy", NULL, 0, -1, 1, -1, -1);
        refused("copy", NULL, 1, -1, 0, -1, -1);
        refused("copy", NULL, 0, 0, 0, 0, 0);
        refused("copy", CAST, 1, -1, 2, -1, -1);
        refused("copy", CAST, 2, 43, 1, 0, 1);
        refused("copy", CAST, 1, 0, 3, 0, 0);
        int[][] beyond = {{-1, 0, 0}, {0, -1, 0}, {0, 0, -1}, {25, 0, 0}, {0, 25, 0}, {24, 0, 1}, {0, 24, 1},
            {0, 0, 25}, {1, 0, 24}, {0, 1, 24}, {LOW, 0, 0}, {0, LOW, 0}, {0, 0, LOW}, {HIGH, 0, 1}, {0, HIGH, 1},
            {0, 0, HIGH}, {HIGH, HIGH, HIGH}};
        for (int[] r : beyond) {
            refused("copy", INDEX, 1, r[0], 1, r[1], r[2]);
        }
        refused("copy", INDEX, 3, 0, 3, 0, 1);
        refused("copy", INDEX, 3, 1, 3, 0, 0);
        refused("copy", INDEX, 3, 0, 3, 1, 0);
        asked("copy", 0, 1, 24, 1, 24, 0);
        asked("copy", 0, 1, 0, 1, 0, 0);
        asked("copy", 0, 3, 0, 3, 0, 0);
        taken("copy", 24, 1, 0, 1, 0, 24);
        taken("copy", 1, 1, 23, 1, 0, 1);
        taken("copy", 1, 1, 0, 1, 23, 1);
    }

    private static void kinds() {
        for (int p : new int[] {-1, 4, LOW, HIGH}) {
            refused("as", UNKNOWN, p, 3);
            refused("as", UNKNOWN, p, 0);
        }
        int[] kindOf = {0, 1, 2, 0};
        for (int p = 0; p < 4; p++) {
            for (int kind : new int[] {-1, 3, LOW, HIGH}) {
                refused("as", OUTSIDE, p, kind);
            }
            for (int kind = 0; kind < 3; kind++) {
                refused("as", kind <= kindOf[p] ? 1 : CAST, p, kind);
            }
        }
    }

    private static void many() {
        for (int what : new int[] {-1, 4, LOW, HIGH}) {
            refused("many", OUTSIDE, what);
            refused(BARE, "many", OUTSIDE, what);
        }
        int[] due = {4, 1, 1, 2};
        for (int what = 0; what < 4; what++) {
            asked("many", due[what], what);
        }
    }
}

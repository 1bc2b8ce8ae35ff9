/** Promises 22 to 32: sheet, lose, put, cell, copy, tell, wave, as, trace, fault, many. */
public final class SheetsTest {
    private static final int UNKNOWN = WinnersLeave.UNKNOWN;
    private static final int OUTSIDE = WinnersLeave.OUTSIDE;
    private static final long LOST = WinnersLeave.LOST;
    private static final Due DUE = new Due("SheetsTest");

    public static void main(String[] args) {
        newRows();
        losing();
        putsAreCut();
        putRefusals();
        cellRefusals();
        copies();
        copyRefusals();
        telling();
        waving();
        takenAs();
        traceWraps();
        faults();
        howMany();
        DUE.end();
    }

    private static void newRows() {
        WinnersLeave x = new WinnersLeave();
        DUE.is("-1", x.sheet(-1, 3, 61), UNKNOWN);
        DUE.is("4", x.sheet(4, 0, 1), UNKNOWN);
        DUE.is("lane -1", x.sheet(0, -1, -1), OUTSIDE);
        DUE.is("lane 3", x.sheet(0, 3, -1), OUTSIDE);
        DUE.is("n 61", x.sheet(0, 0, 61), OUTSIDE);
        DUE.is("no fault", x.fault(), 0);
        DUE.is("n -1", x.sheet(0, 0, -1), -14);
        DUE.is("SIZE", x.fault(), 4);
        DUE.is("far n", x.sheet(0, 0, Integer.MIN_VALUE), -14);
        DUE.is("has nothing yet", x.lose(0), 0);
        for (int lane = 0; lane < 3; lane++) {
            DUE.is("n 60", x.sheet(lane, lane, 60), 1);
            DUE.is("0 at first", x.cell(lane, 59, lane), 0);
            DUE.is("no more", x.cell(lane, 60, lane), LOST);
            x.put(lane, 0, 7);
            x.put(lane, 59, 7);
            DUE.is("a new row", x.sheet(lane, lane, 60), 1);
            DUE.is("0 anew", x.cell(lane, 0, lane) + x.cell(lane, 59, lane), 0);
            x.put(lane, 0, 7);
            DUE.is("refused", x.sheet(lane, lane, 61), OUTSIDE);
            DUE.is("SIZE", x.sheet(lane, lane, -1), -14);
            DUE.is("changes nothing", x.cell(lane, 0, lane), 7);
        }
        DUE.is("empty", x.sheet(3, 2, 0), 1);
        DUE.is("no cell 0", x.cell(3, 0, 2), LOST);
        DUE.is("INDEX", x.fault(), 3);
        DUE.is("another lane", x.sheet(3, 0, 1), 1);
        DUE.is("is bytes", x.cell(3, 0, 0), 0);
    }

    private static void losing() {
        WinnersLeave x = new WinnersLeave();
        DUE.is("-1", x.lose(-1), UNKNOWN);
        DUE.is("4", x.lose(4), UNKNOWN);
        for (int k = 0; k < 4; k++) {
            DUE.is("nothing", x.lose(k), 0);
            x.sheet(k, 1, 0);
            DUE.is("a row of none", x.lose(k), 1);
            DUE.is("nothing again", x.lose(k), 0);
            DUE.is("NULL", x.put(k, 0, 1), -11);
        }
    }

    private static void putsAreCut() {
        WinnersLeave x = new WinnersLeave();
        int[] values = {0, 127, 128, -128, -129, 255, 256, 32767, 32768, -32769, 65535, 65536,
            Integer.MAX_VALUE, Integer.MIN_VALUE};
        for (int lane = 0; lane < 3; lane++) {
            x.sheet(lane, lane, 2);
            for (int v : values) {
                DUE.is("put " + v, x.put(lane, 1, v), 1);
                int due = lane == 0 ? (byte) v : lane == 1 ? (short) v : v;
                DUE.is("cut " + v + " to lane " + lane, x.cell(lane, 1, lane), due);
                DUE.is("the other stays", x.cell(lane, 0, lane), 0);
            }
        }
    }

    private static void putRefusals() {
        WinnersLeave x = new WinnersLeave();
        x.sheet(0, 0, 2);
        DUE.is("-1", x.put(-1, 0, 1), UNKNOWN);
        DUE.is("4", x.put(4, 0, 1), UNKNOWN);
        DUE.is("nothing", x.put(1, -1, 1), -11);
        DUE.is("NULL", x.fault(), 1);
        for (int i : new int[] {-1, 2, 60, Integer.MIN_VALUE, Integer.MAX_VALUE}) {
            DUE.is("cell " + i, x.put(0, i, 1), -13);
            DUE.is("INDEX", x.fault(), 3);
        }
        DUE.is("a refusal", x.put(4, 0, 1), UNKNOWN);
        DUE.is("clears the fault", x.fault(), 0);
    }

    private static void cell(WinnersLeave x, int k, int i, int lane, int fault) {
        DUE.is("cell " + k + " " + i + " " + lane, x.cell(k, i, lane), LOST);
        DUE.is("fault of cell " + k + " " + i + " " + lane, x.fault(), fault);
    }

    private static void cellRefusals() {
        WinnersLeave x = new WinnersLeave();
        x.sheet(0, 1, 2);
        cell(x, 1, 9, 1, 1);
        cell(x, -1, 0, 1, 0);
        cell(x, 0, 9, 0, 2);
        cell(x, 4, 0, 1, 0);
        cell(x, 0, 2, 1, 3);
        cell(x, 0, 0, -1, 0);
        cell(x, 0, -1, 1, 3);
        cell(x, 1, 0, 3, 0);
        cell(x, 0, 0, 2, 2);
        DUE.is("cell", x.cell(0, 0, 1), 0);
        DUE.is("no fault", x.fault(), 0);
    }

    private static void rowIs(WinnersLeave x, int k, int lane, int... due) {
        for (int i = 0; i < due.length; i++) {
            DUE.is("sheet " + k + " cell " + i, x.cell(k, i, lane), due[i]);
        }
    }

    private static void copies() {
        for (int lane = 0; lane < 3; lane++) {
            WinnersLeave x = new WinnersLeave();
            Due.row(x, 0, lane, 1, 2, 3, 4, 5);
            Due.row(x, 1, lane, 9, 8, 7);
            DUE.is("copy", x.copy(0, 1, 1, 0, 2), 2);
            rowIs(x, 1, lane, 2, 3, 7);
            rowIs(x, 0, lane, 1, 2, 3, 4, 5);
            DUE.is("upward in itself", x.copy(0, 0, 0, 1, 4), 4);
            rowIs(x, 0, lane, 1, 1, 2, 3, 4);
            DUE.is("downward in itself", x.copy(0, 1, 0, 0, 4), 4);
            rowIs(x, 0, lane, 1, 2, 3, 4, 4);
            DUE.is("none", x.copy(0, 5, 1, 3, 0), 0);
            DUE.is("all", x.copy(1, 0, 0, 2, 3), 3);
            rowIs(x, 0, lane, 1, 2, 2, 3, 7);
            DUE.is("no fault", x.fault(), 0);
        }
    }

    private static void copyRefusals() {
        WinnersLeave x = new WinnersLeave();
        Due.row(x, 0, 1, 1, 2, 3);
        Due.row(x, 1, 1, 4, 5);
        Due.row(x, 2, 2, 6, 7);
        // k, i, other, j, n, answer
        int[][] rows = {
            {-1, 0, 0, 0, 0, UNKNOWN}, {4, 0, 0, 0, 0, UNKNOWN}, {3, 0, -1, 0, 0, UNKNOWN}, {3, 0, 4, 0, 0, UNKNOWN},
            {3, -1, 0, 0, 0, -11}, {0, -1, 3, 0, 0, -11}, {3, 0, 3, 0, 0, -11}, {0, -1, 2, 0, 0, -12}, {2, 0, 0, 0, 1, -12},
            {0, -1, 1, 0, 0, -13}, {0, 0, 1, -1, 0, -13}, {0, 0, 1, 0, -1, -13}, {0, 4, 1, 0, 0, -13},
            {0, 0, 1, 3, 0, -13}, {0, 2, 1, 0, 2, -13}, {0, 0, 1, 1, 2, -13}, {0, 0, 1, 0, 3, -13},
            {0, 1, 1, 0, Integer.MAX_VALUE, -13}, {0, Integer.MAX_VALUE, 1, 0, 1, -13},
            {0, 0, 1, Integer.MAX_VALUE, 1, -13}, {0, 0, 1, 0, Integer.MIN_VALUE, -13},
        };
        for (int[] r : rows) {
            String what = "copy " + java.util.Arrays.toString(r);
            DUE.is(what, x.copy(r[0], r[1], r[2], r[3], r[4]), r[5]);
            DUE.is("fault of " + what, x.fault(), r[5] > -10 ? 0 : -10 - r[5]);
        }
        rowIs(x, 0, 1, 1, 2, 3);
        rowIs(x, 1, 1, 4, 5);
        rowIs(x, 2, 2, 6, 7);
    }

    private static void telling() {
        WinnersLeave x = Due.town("v;p52;l31;c47");
        DUE.is("player", x.tell(0), 5);
        DUE.is("player's trace", x.trace(), 1);
        x = Due.town("v;p52;l31;c47");
        DUE.is("lefty", x.tell(1), 103);
        DUE.is("lefty's trace", x.trace(), 2 * 31 + 1);
        x = Due.town("v;p52;l31;c47");
        DUE.is("champion", x.tell(2), 108);
        DUE.is("champion's trace", x.trace(), ((3 * 31 + 2) * 31 + 1) * 31 + 1);
        x.train(2, 9);
        DUE.is("as he is now", x.tell(2), 118);
        int trace = x.trace();
        DUE.is("-1", x.tell(-1), UNKNOWN);
        DUE.is("3", x.tell(3), UNKNOWN);
        DUE.is("refusals leave no trace", x.trace(), trace);
    }

    private static void waving() {
        WinnersLeave x = Due.town("v;p52;l31;c47");
        DUE.is("player", x.wave(0), 2);
        DUE.is("trace 4", x.trace(), 4);
        DUE.is("lefty", x.wave(1), 1);
        DUE.is("trace 4 again", x.trace(), 4 * 31 + 4);
        DUE.is("champion", x.wave(2), 30);
        DUE.is("trace 5", x.trace(), (4 * 31 + 4) * 31 + 5);
        x.learn(0, 9);
        DUE.is("as he is now", x.wave(0), 9);
        int trace = x.trace();
        DUE.is("-1", x.wave(-1), UNKNOWN);
        DUE.is("3", x.wave(3), UNKNOWN);
        DUE.is("refusals leave no trace", x.trace(), trace);
    }

    private static void takenAs() {
        WinnersLeave x = Due.town("v;p52;l31;c47");
        for (int p = 0; p < 3; p++) {
            for (int kind = 0; kind < 3; kind++) {
                DUE.is(p + " as " + kind, x.as(p, kind), kind <= p ? 1 : -12);
                DUE.is("fault of " + p + " as " + kind, x.fault(), kind <= p ? 0 : 2);
            }
            DUE.is("as -1", x.as(p, -1), OUTSIDE);
            DUE.is("as 3", x.as(p, 3), OUTSIDE);
            DUE.is("no fault", x.fault(), 0);
        }
        x.as(0, 2);
        DUE.is("-1", x.as(-1, 9), UNKNOWN);
        DUE.is("3", x.as(3, 0), UNKNOWN);
        DUE.is("no fault by it", x.fault(), 0);
    }

    private static void traceWraps() {
        WinnersLeave x = Due.town("v;p52;l31;c47");
        int trace = 0;
        for (int turn = 0; turn < 20; turn++) {
            x.wave(2);
            trace = trace * 31 + 5;
            DUE.is("trace after " + turn, x.trace(), trace);
        }
    }

    private static void faults() {
        WinnersLeave x = Due.town("v;p52;l31;c47");
        DUE.is("a row is made", x.sheet(0, 0, 3), 1);
        x.put(0, 3, 1);
        DUE.is("INDEX", x.fault(), 3);
        x.ofPerson(9, 9);
        x.train(0, 1);
        x.learn(0, 1);
        x.shy(0, 1);
        x.game(0, 1, 0, 0);
        x.fetch(0);
        x.safe(0, 1);
        x.sure(0);
        x.common(0, 1);
        x.pairs(0);
        x.reading(0, 1, 0, 0);
        x.back(0);
        x.strengths(0);
        x.feints(0);
        x.kinds(0);
        x.odds(0, 1, 0);
        x.lose(1);
        x.tell(0);
        x.wave(0);
        x.trace();
        x.many(0);
        DUE.is("INDEX yet: these name none", x.fault(), 3);
        x.put(0, 0, 1);
        DUE.is("put without one", x.fault(), 0);
        x.put(0, 3, 1);
        x.sheet(1, 0, 3);
        DUE.is("sheet without one", x.fault(), 0);
        x.put(0, 3, 1);
        x.sheet(1, 0, 61);
        DUE.is("a refused sheet", x.fault(), 0);
        x.put(0, 3, 1);
        x.copy(9, 0, 0, 0, 0);
        DUE.is("a refused copy", x.fault(), 0);
        x.put(0, 3, 1);
        x.season(0, 0, 0, 0, 0);
        DUE.is("season without one", x.fault(), 0);
        x.put(0, 3, 1);
        x.orders(0, 0, 0, 0, 0);
        DUE.is("orders without one", x.fault(), 0);
        x.put(0, 3, 1);
        x.drops(0, 0, 0, 0);
        DUE.is("drops without one", x.fault(), 0);
        x.put(0, 3, 1);
        Due.harbour(x, "v;p11;p22");
        DUE.is("harbour without one", x.fault(), 0);
    }

    private static void howMany() {
        WinnersLeave x = Due.town("v;p52;l31;c47;p00");
        x.shy(0, 3);
        x.game(1, 2, 3, 8);
        x.game(1, 3, 3, 0);
        x.reading(0, 1, 0, 0);
        x.reading(0, 1, 0, 0);
        DUE.is("people", x.many(0), 4);
        DUE.is("gone", x.many(1), 3);
        DUE.is("games", x.many(2), 3);
        DUE.is("readings", x.many(3), 2);
        DUE.is("-1", x.many(-1), OUTSIDE);
        DUE.is("4", x.many(4), OUTSIDE);
        x.fetch(1);
        DUE.is("gone yet", x.many(1), 2);
        DUE.is("games stay", x.many(2), 3);
    }
}

/**
 * All that can be asked of an object, as one text: a call that changes nothing leaves it as it was.
 * Readings are taken back one by one to see each of them, so the object is of no use behind it.
 * fault() is left out: refusals and faults may change it.
 */
final class Asked {
    private static final int PEOPLE = 6, SHEETS = 4, LANES = 3, CELLS = 60;

    static String all(WinnersLeave x) {
        StringBuilder told = new StringBuilder("trace " + x.trace() + " many");
        for (int what = 0; what < 4; what++) {
            told.append(' ').append(x.many(what));
        }
        for (int p = 0; p < PEOPLE; p++) {
            told.append("\nperson");
            for (int what = 0; what < 6; what++) {
                told.append(' ').append(x.ofPerson(p, what));
            }
        }
        for (int k = 0; k < SHEETS; k++) {
            told.append("\nsheet ").append(row(x, k));
        }
        return told.append(readings(x)).toString();
    }

    private static String row(WinnersLeave x, int k) {
        StringBuilder told = new StringBuilder();
        for (int lane = 0; lane < LANES; lane++) {
            long first = x.cell(k, 0, lane);
            int fault = x.fault();
            told.append(" lane ").append(lane).append(" fault ").append(fault);
            boolean more = fault == 0;
            for (int i = 0; i < CELLS + 1 && more; i++) {
                told.append(' ').append(i == 0 ? first : x.cell(k, i, lane));
                more = i == 0 || x.fault() == 0;
            }
        }
        return told.toString();
    }

    private static String readings(WinnersLeave x) {
        StringBuilder told = new StringBuilder();
        int people = x.many(0);
        for (int left = x.many(3); left > 0; left = x.back(1)) {
            told.append("\nreadings ").append(left);
            for (int p = 0; p < people; p++) {
                told.append(' ').append(x.strengths(p)).append(' ').append(x.feints(p)).append(' ').append(x.kinds(p));
            }
        }
        return told.toString();
    }
}

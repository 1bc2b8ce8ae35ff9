/** Promises 1 to 5: a new object, harbour, ofPerson, train, learn. */
public final class HarbourTest {
    private static final Due DUE = new Due("HarbourTest");

    public static void main(String[] args) {
        newObject();
        textsTaken();
        firstFaults();
        harbourRefusals();
        harbourMakesAllAnew();
        textNotTakenChangesNothing();
        bestAndWorst();
        ofPersonRefusals();
        trainAndLearn();
        DUE.end();
    }

    private static void newObject() {
        WinnersLeave x = new WinnersLeave();
        for (int what = 0; what < 4; what++) {
            DUE.is("new many(" + what + ")", x.many(what), 0);
        }
        for (int k = 0; k < 4; k++) {
            DUE.is("new lose(" + k + ")", x.lose(k), 0);
        }
        DUE.is("new trace", x.trace(), 0);
        DUE.is("new fault", x.fault(), 0);
        DUE.is("new ofPerson", x.ofPerson(0, 0), WinnersLeave.UNKNOWN);
    }

    private static void textsTaken() {
        String text = "v";
        for (int people = 1; people <= 6; people++) {
            text += ";" + "plc".charAt(people % 3) + people + (9 - people);
            WinnersLeave x = new WinnersLeave();
            DUE.is(text, Due.harbour(x, text), people < 2 ? -105 : people);
            DUE.is("many(0) of " + text, x.many(0), people < 2 ? 0 : people);
            for (int p = 0; p < people && people >= 2; p++) {
                DUE.is("kind " + p, x.ofPerson(p, 0), (p + 1) % 3);
                DUE.is("strength " + p, x.ofPerson(p, 1), p + 1);
                DUE.is("feint " + p, x.ofPerson(p, 2), 8 - p);
                DUE.is("gone " + p, x.ofPerson(p, 5), 0);
            }
            DUE.is("no person " + people, x.ofPerson(people, 1), WinnersLeave.UNKNOWN);
        }
        for (int lane = 0; lane < 3; lane++) {
            WinnersLeave x = new WinnersLeave();
            Due.row(x, 2, lane, 7, 'v', ';', 'c', '0', '9', ';', 'l', '9', '0', 7);
            DUE.is("text from the midst, lane " + lane, x.harbour(2, lane, 1, 9), 2);
            DUE.is("champion", x.ofPerson(0, 0), 2);
            DUE.is("lefty's strength", x.ofPerson(1, 1), 9);
        }
    }

    private static void firstFaults() {
        String whole = "v;p12;l34;c56;p78;l90;c11";
        for (int n = 0; n <= whole.length(); n++) {
            boolean taken = n >= 9 && n % 4 == 1;
            String told = whole.substring(0, n);
            DUE.is("cut " + told, Due.harbour(new WinnersLeave(), told), taken ? n / 4 : -100 - n);
            for (char code : new char[] {'x', '/', ':', 'V', '<'}) {
                DUE.is("with " + code + " " + told, Due.harbour(new WinnersLeave(), told + code + "9"), -100 - n);
            }
        }
        DUE.is("seventh", Due.harbour(new WinnersLeave(), whole + ";p11"), -125);
        DUE.is("seventh's ; alone", Due.harbour(new WinnersLeave(), whole + ";"), -125);
        DUE.is("a letter for a digit", Due.harbour(new WinnersLeave(), "v;pp1;p11"), -103);
        DUE.is("a digit for a letter", Due.harbour(new WinnersLeave(), "v;111;p11"), -102);
        DUE.is("two digits for a feint", Due.harbour(new WinnersLeave(), "v;p111;p1"), -105);
        WinnersLeave x = new WinnersLeave();
        Due.row(x, 0, 2, 'v', ';', 'p', 256 + '1');
        DUE.is("ints are not cut to bytes", x.harbour(0, 2, 0, 4), -103);
        DUE.is("no FAULT by it", x.fault(), 0);
        Due.row(x, 0, 2, 1, 1, 'v', 'v');
        DUE.is("place from the text's begin", x.harbour(0, 2, 2, 2), -101);
        DUE.is("nothing taken at the end", x.harbour(0, 2, 4, 0), -100);
        Due.row(x, 0, 2, 'v', ';', 'p', Integer.MIN_VALUE, Integer.MAX_VALUE);
        DUE.is("far codes", x.harbour(0, 2, 0, 5), -103);
    }

    private static void harbourRefusals() {
        WinnersLeave x = new WinnersLeave();
        Due.row(x, 1, 1, 'v', ';');
        DUE.is("sheet -1", x.harbour(-1, 9, 0, 0), WinnersLeave.UNKNOWN);
        DUE.is("sheet 4", x.harbour(4, 0, 0, 0), WinnersLeave.UNKNOWN);
        DUE.is("lane -1", x.harbour(1, -1, 0, -1), WinnersLeave.OUTSIDE);
        DUE.is("lane 3", x.harbour(0, 3, 0, 0), WinnersLeave.OUTSIDE);
        DUE.is("no fault by refusals", x.fault(), 0);
        DUE.is("another lane", x.harbour(1, 0, -1, -1), -12);
        DUE.is("CAST", x.fault(), 2);
        DUE.is("nothing", x.harbour(0, 0, -1, -1), -11);
        DUE.is("NULL", x.fault(), 1);
        DUE.is("below 0", x.harbour(1, 1, -1, -1), -14);
        DUE.is("SIZE", x.fault(), 4);
        DUE.is("beyond", x.harbour(1, 1, 0, 3), -13);
        DUE.is("INDEX", x.fault(), 3);
        DUE.is("from -1", x.harbour(1, 1, -1, 1), -13);
        DUE.is("none from -1", x.harbour(1, 1, -1, 0), -13);
        DUE.is("none from beyond", x.harbour(1, 1, 3, 0), -13);
        DUE.is("none from the end", x.harbour(1, 1, 2, 0), -100);
        DUE.is("none, no fault", x.fault(), 0);
        DUE.is("far n", x.harbour(1, 1, 1, Integer.MAX_VALUE), -13);
        DUE.is("far i", x.harbour(1, 1, Integer.MAX_VALUE, Integer.MAX_VALUE), -13);
        DUE.is("a refusal clears it", x.harbour(4, 1, 0, 0), WinnersLeave.UNKNOWN);
        DUE.is("cleared", x.fault(), 0);
    }

    private static void harbourMakesAllAnew() {
        WinnersLeave x = Due.town("v;p90;p10;p33");
        x.shy(0, 1);
        x.reading(0, 1, 0, 0);
        x.tell(0);
        x.train(2, 7);
        DUE.is("anew", Due.harbour(x, "v;p90;p10"), 2);
        DUE.is("people anew", x.many(0), 2);
        DUE.is("nobody gone", x.many(1), 0);
        DUE.is("not gone", x.ofPerson(0, 5), 0);
        DUE.is("no games", x.many(2), 0);
        DUE.is("no readings", x.many(3), 0);
        DUE.is("strengths without readings", x.strengths(0), 1023);
        DUE.is("trace stays", x.trace(), 1);
        DUE.is("the sheet stays", x.cell(3, 0, 1), 'v');
    }

    private static void textNotTakenChangesNothing() {
        WinnersLeave x = Due.town("v;p90;p10;l33");
        x.shy(0, 1);
        x.reading(0, 1, 0, 0);
        DUE.is("ends too soon", Due.harbour(x, "v;c11;c22;c33;"), -114);
        DUE.is("people stay", x.many(0), 3);
        DUE.is("gone stay", x.ofPerson(0, 5), 1);
        DUE.is("games stay", x.many(2), 1);
        DUE.is("readings stay", x.many(3), 1);
        DUE.is("kind stays", x.ofPerson(2, 0), 1);
        DUE.is("strength stays", x.ofPerson(2, 1), 3);
    }

    private static void bestAndWorst() {
        for (int kind = 0; kind < 3; kind++) {
            for (int s = 0; s <= 9; s++) {
                for (int f = 0; f <= 9; f++) {
                    String one = "" + "plc".charAt(kind) + s + f;
                    WinnersLeave x = Due.town("v;" + one + ";p00");
                    int best = kind == 2 ? s + s : kind == 1 ? s + 1 : s;
                    DUE.is("best of " + one, x.ofPerson(0, 3), best);
                    DUE.is("worst of " + one, x.ofPerson(0, 4), f > best ? 0 : best - f);
                }
            }
        }
    }

    private static void ofPersonRefusals() {
        WinnersLeave x = Due.town("v;p12;l34");
        DUE.is("person -1", x.ofPerson(-1, 9), WinnersLeave.UNKNOWN);
        DUE.is("person 2", x.ofPerson(2, 0), WinnersLeave.UNKNOWN);
        DUE.is("what -1", x.ofPerson(0, -1), WinnersLeave.OUTSIDE);
        DUE.is("what 6", x.ofPerson(1, 6), WinnersLeave.OUTSIDE);
    }

    private static void trainAndLearn() {
        WinnersLeave x = Due.town("v;p12;l34");
        DUE.is("train", x.train(1, 9), 3);
        DUE.is("train again", x.train(1, 0), 9);
        DUE.is("strength", x.ofPerson(1, 1), 0);
        DUE.is("feint stays", x.ofPerson(1, 2), 4);
        DUE.is("learn", x.learn(0, 9), 2);
        DUE.is("learn again", x.learn(0, 0), 9);
        DUE.is("feint", x.ofPerson(0, 2), 0);
        DUE.is("strength stays", x.ofPerson(0, 1), 1);
        for (int v : new int[] {-1, 10, Integer.MIN_VALUE, Integer.MAX_VALUE}) {
            DUE.is("train " + v, x.train(0, v), WinnersLeave.OUTSIDE);
            DUE.is("learn " + v, x.learn(0, v), WinnersLeave.OUTSIDE);
        }
        for (int p : new int[] {-1, 2}) {
            DUE.is("train of " + p, x.train(p, 10), WinnersLeave.UNKNOWN);
            DUE.is("learn of " + p, x.learn(p, 10), WinnersLeave.UNKNOWN);
        }
        DUE.is("nothing changed", x.ofPerson(0, 1) * 10 + x.ofPerson(0, 2), 10);
        x.train(0, 9);
        x.shy(0, 1);
        DUE.is("one gone can train", x.train(0, 4), 9);
        DUE.is("one gone can learn", x.learn(0, 4), 0);
    }
}

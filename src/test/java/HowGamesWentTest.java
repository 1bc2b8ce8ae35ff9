/** Promises 16 to 21: reading, back, strengths, feints, kinds, odds. */
public final class HowGamesWentTest {
    private static final int UNKNOWN = WinnersLeave.UNKNOWN;
    private static final int OUTSIDE = WinnersLeave.OUTSIDE;
    private static final int FULL = WinnersLeave.FULL;
    private static final Due DUE = new Due("HowGamesWentTest");

    public static void main(String[] args) {
        readingNumbers();
        readingRefusals();
        takenBack();
        traitsByOneReading();
        traitsByAllReadings();
        traitsChangeNothing();
        traitRefusals();
        oddsInLeastTerms();
        oddsRefusals();
        DUE.end();
    }

    private static void readingNumbers() {
        WinnersLeave x = Due.town("v;p52;l31");
        for (int r = 0; r < 8; r++) {
            DUE.is("reading " + r, x.reading(r % 2, 1 - r % 2, r / 2 % 2, r % 3), r);
            DUE.is("readings", x.many(3), r + 1);
        }
        DUE.is("a ninth", x.reading(0, 1, 0, 0), FULL);
        DUE.is("eight yet", x.many(3), 8);
        DUE.is("UNKNOWN ahead of FULL", x.reading(0, 0, 0, 0), UNKNOWN);
        DUE.is("OUTSIDE ahead of FULL", x.reading(0, 1, 2, 0), OUTSIDE);
        DUE.is("one back", x.back(1), 7);
        DUE.is("again", x.reading(0, 1, 0, 0), 7);
    }

    private static void readingRefusals() {
        WinnersLeave x = Due.town("v;p52;l31");
        for (int[] two : new int[][] {{-1, 0}, {0, -1}, {2, 0}, {0, 2}, {1, 1}}) {
            DUE.is("of " + two[0] + " " + two[1], x.reading(two[0], two[1], 9, 9), UNKNOWN);
        }
        DUE.is("how -1", x.reading(0, 1, -1, 0), OUTSIDE);
        DUE.is("how 2", x.reading(0, 1, 2, 0), OUTSIDE);
        DUE.is("result -1", x.reading(0, 1, 0, -1), OUTSIDE);
        DUE.is("result 3", x.reading(0, 1, 0, 3), OUTSIDE);
        DUE.is("none", x.many(3), 0);
        x.shy(0, 1);
        x.train(0, 9);
        x.shy(0, 1);
        DUE.is("of one gone", x.reading(0, 1, 0, 0), 0);
    }

    private static void takenBack() {
        WinnersLeave x = Due.town("v;p52;l31");
        DUE.is("none of none", x.back(0), 0);
        DUE.is("one of none", x.back(1), OUTSIDE);
        x.reading(0, 1, 0, 2);
        x.reading(0, 1, 0, 0);
        x.reading(0, 1, 0, 1);
        DUE.is("-1", x.back(-1), OUTSIDE);
        DUE.is("4", x.back(4), OUTSIDE);
        DUE.is("none", x.back(0), 3);
        DUE.is("by all", x.strengths(0), 0);
        DUE.is("the last two", x.back(2), 1);
        DUE.is("by the first", x.strengths(0), 0b1111100000);
        DUE.is("all", x.back(1), 0);
        DUE.is("by none", x.strengths(0), 1023);
        DUE.is("without a harbour", new WinnersLeave().back(0), 0);
    }

    private static void traits(String what, WinnersLeave x, int p, int strengths, int feints, int kinds) {
        DUE.is(what + ", strengths of " + p, x.strengths(p), strengths);
        DUE.is(what + ", feints of " + p, x.feints(p), feints);
        DUE.is(what + ", kinds of " + p, x.kinds(p), kinds);
    }

    private static void traitsByOneReading() {
        // WORST .. BEST: 3 .. 5, 3 .. 4, 8 .. 8
        WinnersLeave x = Due.town("v;p52;l31;c40");
        traits("no readings", x, 2, 1023, 1023, 7);
        x.reading(0, 1, 0, 0);
        traits("0 lost, both their best", x, 0, 0b0000001111, 0, 0);
        traits("0 lost, both their best", x, 1, 0b1111100000, 0, 0b100);
        traits("a reading that is not so", x, 2, 0, 0, 0);
        x.back(1);
        x.reading(0, 1, 0, 1);
        traits("a draw, both their best", x, 0, 0b0000010000, 0, 0);
        traits("a draw, both their best", x, 1, 0b0000010000, 0, 0);
        x.back(1);
        x.reading(0, 1, 1, 1);
        traits("a draw, both their worst", x, 0, 0b0000100000, 0b0000000100, 0b001);
        traits("a draw, both their worst", x, 1, 0b0000001000, 0b0000000010, 0b010);
        traits("a reading that is so", x, 2, 1023, 1023, 7);
        x.back(1);
        x.reading(2, 0, 1, 2);
        traits("2 won, both their worst", x, 2, 0b1111111100, 0b0000011111, 0b111);
        traits("2 won, both their worst", x, 0, 0b1111111111, 0b1111111111, 0b011);
        x.back(1);
        x.reading(2, 0, 1, 0);
        traits("2 lost, both their worst", x, 2, 0b0000000011, 0b1111000000, 0);
    }

    private static void traitsByAllReadings() {
        WinnersLeave x = Due.town("v;p52;l31;c40");
        x.reading(0, 1, 0, 2);
        x.reading(0, 2, 0, 0);
        traits("between", x, 0, 0b0011100000, 1023, 0b011);
        x.reading(0, 1, 1, 2);
        traits("its worst above", x, 0, 0b0011000000, 0b0000000011, 0b010);
        x.train(0, 6);
        traits("by what he is now", x, 0, 0b0011000000, 0b0000000111, 0b011);
        x.reading(1, 2, 0, 1);
        traits("one that is not so for others", x, 0, 0, 0, 0);
        traits("one that can be so", x, 2, 0, 0, 0);
        x.train(2, 2);
        x.back(1);
        traits("in place of what he is alone", x, 2, 0b1111110000, 0, 0);
        // a best of 4 and a worst of 3
        x.train(0, 5);
        x.back(2);
        x.reading(1, 2, 0, 1);
        x.reading(1, 2, 1, 1);
        x.learn(2, 1);
        traits("best and worst", x, 2, 0b100, 0b10, 0b100);
    }

    private static void traitsChangeNothing() {
        WinnersLeave x = Due.town("v;l52;l31;c40");
        x.shy(0, 1);
        x.reading(0, 1, 0, 1);
        traits("ask", x, 0, 0b1000, 0, 0);
        DUE.is("kind", x.ofPerson(0, 0), 1);
        DUE.is("strength", x.ofPerson(0, 1), 5);
        DUE.is("feint", x.ofPerson(0, 2), 2);
        DUE.is("gone", x.ofPerson(0, 5), 1);
        DUE.is("readings", x.many(3), 1);
    }

    private static void traitRefusals() {
        WinnersLeave x = Due.town("v;l52;l31;c40");
        traits("no person", x, -1, UNKNOWN, UNKNOWN, UNKNOWN);
        traits("no person", x, 3, UNKNOWN, UNKNOWN, UNKNOWN);
        traits("no harbour", new WinnersLeave(), 0, UNKNOWN, UNKNOWN, UNKNOWN);
    }

    private static void odds(WinnersLeave x, int a, int b, int upper, int lower) {
        DUE.is("odds " + a + " " + b + " upper", x.odds(a, b, 0), upper);
        DUE.is("odds " + a + " " + b + " lower", x.odds(a, b, 1), lower);
    }

    private static void oddsInLeastTerms() {
        // WORST .. BEST: 3 .. 5, 3 .. 4, 8 .. 8, 0 .. 9, 9 .. 18, 0 .. 0
        WinnersLeave x = Due.town("v;p52;l31;c40;p99;c99;p00");
        odds(x, 0, 1, 1, 2);
        odds(Due.town("v;p21;p32"), 0, 1, 1, 6);
        odds(Due.town("v;p51;p43"), 0, 1, 7, 8);
        odds(Due.town("v;p31;p43"), 1, 0, 3, 8);
        odds(Due.town("v;p41;p43"), 0, 1, 5, 8);
        odds(Due.town("v;p43;p41"), 0, 1, 1, 8);
        odds(Due.town("v;p43;p43"), 0, 1, 3, 8);
        odds(x, 1, 0, 1, 6);
        odds(x, 0, 2, 0, 1);
        odds(x, 2, 0, 1, 1);
        odds(x, 3, 0, 1, 2);
        odds(x, 0, 3, 2, 5);
        odds(x, 4, 3, 99, 100);
        odds(x, 3, 4, 0, 1);
        odds(x, 3, 5, 9, 10);
        odds(x, 5, 2, 0, 1);
        odds(x, 3, 2, 1, 10);
        x.shy(4, 3);
        odds(x, 4, 3, 99, 100);
        x.learn(4, 0);
        odds(x, 4, 3, 1, 1);
    }

    private static void oddsRefusals() {
        WinnersLeave x = Due.town("v;p52;l31");
        for (int[] two : new int[][] {{-1, 0}, {0, -1}, {2, 0}, {0, 2}, {1, 1}}) {
            DUE.is("odds of " + two[0] + " " + two[1], x.odds(two[0], two[1], 0), WinnersLeave.LOST);
        }
        DUE.is("which -1", x.odds(0, 1, -1), WinnersLeave.LOST);
        DUE.is("which 2", x.odds(0, 1, 2), WinnersLeave.LOST);
        x.sheet(0, 0, -1);
        x.odds(0, 0, 0);
        DUE.is("odds name no fault", x.fault(), 4);
    }
}

/** Promises 6 to 9: game, shy, fetch, season. */
public final class GamesTest {
    private static final int UNKNOWN = WinnersLeave.UNKNOWN;
    private static final int OUTSIDE = WinnersLeave.OUTSIDE;
    private static final int STATE = WinnersLeave.STATE;
    private static final int NONE = WinnersLeave.NONE;
    private static final Due DUE = new Due("GamesTest");

    public static void main(String[] args) {
        games();
        gameRefusals();
        shyGames();
        fetching();
        seasonAnswers();
        seasonFromHowAllIsNow();
        seasonFirstWrong();
        seasonRefusals();
        seasonPairsRefused();
        seasonChangesNothing();
        DUE.end();
    }

    private static void games() {
        WinnersLeave x = Due.town("v;p52;l31;c20");
        DUE.is("draw", x.game(0, 1, 4, 4), NONE);
        DUE.is("nobody gone by a draw", x.many(1), 0);
        DUE.is("a draw is a game", x.many(2), 1);
        DUE.is("the second wins", x.game(0, 2, 3, 4), 2);
        DUE.is("he is gone", x.ofPerson(2, 5), 1);
        DUE.is("the other is not", x.ofPerson(0, 5), 0);
        DUE.is("the first wins", x.game(0, 1, 5, 3), 0);
        DUE.is("two gone", x.many(1), 2);
        DUE.is("three games", x.many(2), 3);
    }

    private static void gameRefusals() {
        WinnersLeave x = Due.town("v;p52;l31;c20");
        DUE.is("a -1", x.game(-1, 0, 9, 9), UNKNOWN);
        DUE.is("a 3", x.game(3, 0, 9, 9), UNKNOWN);
        DUE.is("b -1", x.game(0, -1, 9, 9), UNKNOWN);
        DUE.is("b 3", x.game(0, 3, 9, 9), UNKNOWN);
        DUE.is("both the same", x.game(1, 1, 9, 9), UNKNOWN);
        DUE.is("x too ill", x.game(0, 1, 2, 3), OUTSIDE);
        DUE.is("x too well", x.game(0, 1, 6, 3), OUTSIDE);
        DUE.is("y too ill", x.game(0, 1, 3, 2), OUTSIDE);
        DUE.is("y too well", x.game(0, 1, 3, 5), OUTSIDE);
        DUE.is("no games by refusals", x.many(2), 0);
        x.game(2, 0, 4, 3);
        DUE.is("first gone", x.game(2, 0, 4, 3), STATE);
        DUE.is("second gone", x.game(0, 2, 3, 4), STATE);
        DUE.is("gone and outside", x.game(2, 0, 5, 3), OUTSIDE);
        DUE.is("one game", x.many(2), 1);
        DUE.is("one gone", x.many(1), 1);
    }

    private static void shyGames() {
        WinnersLeave x = Due.town("v;p52;l31;c20;p09");
        DUE.is("3 and 3", x.shy(0, 1), NONE);
        DUE.is("4 and 3", x.shy(2, 1), 2);
        DUE.is("gone", x.shy(2, 0), STATE);
        DUE.is("gone, too", x.shy(0, 2), STATE);
        DUE.is("0 and 3", x.shy(3, 0), 0);
        DUE.is("games", x.many(2), 3);
        DUE.is("the same", x.shy(1, 1), UNKNOWN);
        DUE.is("-1", x.shy(-1, 1), UNKNOWN);
        DUE.is("4", x.shy(4, 1), UNKNOWN);
        DUE.is("second -1", x.shy(1, -1), UNKNOWN);
        DUE.is("second 4", x.shy(1, 4), UNKNOWN);
        DUE.is("games yet", x.many(2), 3);
    }

    private static void fetching() {
        WinnersLeave x = Due.town("v;p90;p80;p70;p00");
        DUE.is("not gone", x.fetch(0), STATE);
        x.shy(0, 3);
        x.shy(1, 3);
        x.shy(2, 3);
        DUE.is("one back", x.fetch(1), 2);
        DUE.is("is back", x.ofPerson(1, 5), 0);
        DUE.is("others are not", x.ofPerson(0, 5) + x.ofPerson(2, 5), 2);
        DUE.is("twice", x.fetch(1), STATE);
        DUE.is("next", x.fetch(0), 1);
        DUE.is("last", x.fetch(2), 0);
        DUE.is("-1", x.fetch(-1), UNKNOWN);
        DUE.is("4", x.fetch(4), UNKNOWN);
        DUE.is("games stay", x.many(2), 3);
        DUE.is("he can play again", x.shy(1, 3), 1);
    }

    private static void season(String what, WinnersLeave x, int n, int... due) {
        int[] asked = {0, 1, 2, 3, 4, 10, 11, 12, 13, 14, 15};
        for (int j = 0; j < due.length; j++) {
            DUE.is(what + ", asked " + asked[j], x.season(0, 2, 0, n, asked[j]), due[j]);
        }
    }

    private static void seasonAnswers() {
        WinnersLeave x = Due.town("v;p52;l31;c20;p74;l62");
        Due.row(x, 0, 2);
        season("no acts", x, 0, 5, NONE, 0, 0, NONE, 0, 0, 0, 0, 0, NONE);
        Due.row(x, 0, 2, 0, 1, 2, 0, 4, 3, 3, 1);
        season("two go", x, 4, 3, NONE, 0b10100, 2, 4, 2, 2, 1, 2, 1, NONE);
        Due.row(x, 0, 2, 2, 0, 2, 10, 2, 1, 2, 10);
        season("fetched twice", x, 4, 5, NONE, 0, 0, 2, 1, 1, 2, 0, 0, NONE);
        Due.row(x, 0, 2, 0, 20, 0, 1, 1, 20, 1, 2, 3, 29, 3, 4);
        season("feints", x, 6, 3, NONE, 0b10001, 1, 4, 1, 2, 1, 1, 1, NONE);
        Due.row(x, 0, 2, 2, 0, 2, 29, 2, 10, 2, 0);
        season("one gone learns", x, 4, 4, NONE, 1, 0, 0, 2, 0, 2, 0, 0, NONE);
    }

    private static void seasonFromHowAllIsNow() {
        WinnersLeave x = Due.town("v;p90;p80;p00");
        x.shy(0, 2);
        Due.row(x, 0, 2, 0, 10, 1, 2);
        season("who is gone now", x, 2, 2, NONE, 0b10, 0, 1, 0, 1, 1);
        season("of a shorter one", x, 1, 3, NONE, 0, 0, NONE, 0, 0, 0);
        Due.row(x, 0, 2, 99, 99, 99, 0, 1);
        DUE.is("from i on: he is gone", x.season(0, 2, 3, 1, 1), 0);
        x.fetch(0);
        DUE.is("from i on: 0 wins", x.season(0, 2, 3, 1, 4), 0);
        x.learn(0, 5);
        DUE.is("by feints now: 1 wins", x.season(0, 2, 3, 1, 4), 1);
        for (int lane = 0; lane < 3; lane++) {
            Due.row(x, 1, lane, 1, 2);
            DUE.is("lane " + lane, x.season(1, lane, 0, 1, 2), 0b10);
        }
    }

    private static void firstWrong(int due, WinnersLeave x, int... acts) {
        Due.row(x, 0, 2, acts);
        int n = acts.length / 2;
        DUE.is("first wrong", x.season(0, 2, 0, n, 1), due);
        for (int what : new int[] {0, 2, 3, 4, 10, 15}) {
            DUE.is("by first wrong, asked " + what, x.season(0, 2, 0, n, what), -100 - due);
        }
        DUE.is("no fault by it", x.fault(), 0);
    }

    private static void seasonFirstWrong() {
        WinnersLeave x = Due.town("v;p90;p80;p00");
        firstWrong(0, x, 0, 0);
        firstWrong(0, x, 0, 3);
        firstWrong(0, x, 0, 5);
        firstWrong(0, x, 0, 10);
        firstWrong(1, x, 0, 2, 0, 1);
        firstWrong(1, x, 0, 2, 1, 0);
        firstWrong(2, x, 0, 2, 0, 10, 0, 10, 1, 1);
        firstWrong(2, x, 0, 2, 1, 2, 1, 0, 2, 2);
        x.shy(0, 1);
        firstWrong(1, x, 0, 10, 0, 10);
        firstWrong(0, x, 1, 0);
    }

    private static void seasonRefusals() {
        WinnersLeave x = new WinnersLeave();
        Due.row(x, 1, 1, 0, 1, 0, 1);
        DUE.is("no harbour", x.season(1, 1, 0, 2, 0), STATE);
        DUE.is("no harbour, pairs not come to", x.season(1, 1, 1, 1, 0), STATE);
        Due.harbour(x, "v;p90;p80");
        DUE.is("sheet -1", x.season(-1, 3, 0, 0, 0), UNKNOWN);
        DUE.is("sheet 4", x.season(4, 1, 0, 0, 0), UNKNOWN);
        DUE.is("lane -1", x.season(1, -1, 0, 0, 0), OUTSIDE);
        DUE.is("lane 3", x.season(1, 3, 0, 0, 0), OUTSIDE);
        DUE.is("n -1", x.season(1, 1, 0, -1, 0), OUTSIDE);
        DUE.is("n 21", x.season(0, 1, 0, 21, 0), OUTSIDE);
        DUE.is("far n", x.season(1, 1, 0, Integer.MIN_VALUE, 0), OUTSIDE);
        for (int what : new int[] {-1, 5, 9, 16}) {
            DUE.is("what " + what, x.season(1, 1, 0, 2, what), OUTSIDE);
        }
        DUE.is("no fault by refusals", x.fault(), 0);
        DUE.is("CAST", x.season(1, 2, 9, 2, 0), -12);
        DUE.is("fault CAST", x.fault(), 2);
        DUE.is("NULL", x.season(0, 2, 9, 2, 0), -11);
        DUE.is("fault NULL", x.fault(), 1);
        DUE.is("INDEX beyond", x.season(1, 1, 1, 2, 0), -13);
        DUE.is("fault INDEX", x.fault(), 3);
        DUE.is("INDEX below", x.season(1, 1, -1, 1, 0), -13);
        DUE.is("INDEX none below", x.season(1, 1, -1, 0, 0), -13);
        DUE.is("INDEX none beyond", x.season(1, 1, 5, 0, 0), -13);
        DUE.is("none at the end", x.season(1, 1, 4, 0, 0), 2);
        DUE.is("no fault", x.fault(), 0);
        x.lose(1);
        DUE.is("FAULTS ahead of STATE", new WinnersLeave().season(1, 1, 0, 0, 0), -11);
        int[] acts = new int[40];
        for (int j = 1; j < 40; j += 2) {
            acts[j] = 21;
        }
        Due.row(x, 1, 0, acts);
        DUE.is("twenty acts", x.season(1, 0, 0, 20, 0), 2);
    }

    private static void seasonPairsRefused() {
        WinnersLeave x = Due.town("v;p90;p80;p00");
        for (int act : new int[] {-1, 6, 9, 11, 19, 30, Integer.MAX_VALUE, Integer.MIN_VALUE}) {
            Due.row(x, 0, 2, 3, act);
            DUE.is("act " + act, x.season(0, 2, 0, 1, 1), OUTSIDE);
        }
        for (int p : new int[] {-1, 3, 5, 6, Integer.MAX_VALUE}) {
            Due.row(x, 0, 2, p, 21);
            DUE.is("person " + p, x.season(0, 2, 0, 1, 1), UNKNOWN);
        }
        Due.row(x, 0, 2, 3, 1, 0, 6);
        DUE.is("pair by pair: UNKNOWN first", x.season(0, 2, 0, 2, 0), UNKNOWN);
        Due.row(x, 0, 2, 0, 1, 3, 1);
        DUE.is("the second pair, too", x.season(0, 2, 0, 2, 0), UNKNOWN);
        Due.row(x, 0, 2, 0, 6, 3, 1);
        DUE.is("pair by pair: OUTSIDE first", x.season(0, 2, 0, 2, 0), OUTSIDE);
        Due.row(x, 0, 2, 0, 0, 0, 6);
        DUE.is("a refusal goes ahead of a FIRST WRONG", x.season(0, 2, 0, 2, 1), OUTSIDE);
        DUE.is("cells beyond are not looked at", x.season(0, 2, 0, 1, 1), 0);
    }

    private static void seasonChangesNothing() {
        WinnersLeave x = Due.town("v;p90;p80;p00");
        x.shy(1, 2);
        Due.row(x, 0, 2, 0, 2, 1, 10, 1, 29, 2, 25);
        DUE.is("season", x.season(0, 2, 0, 4, 2), 1);
        DUE.is("0 is here", x.ofPerson(0, 5), 0);
        DUE.is("1 is gone", x.ofPerson(1, 5), 1);
        DUE.is("feint 1", x.ofPerson(1, 2), 0);
        DUE.is("feint 2", x.ofPerson(2, 2), 0);
        DUE.is("games", x.many(2), 1);
        DUE.is("the same again", x.season(0, 2, 0, 4, 2), 1);
    }
}

import java.util.Arrays;

/**
 * The boundaries that the document's Terms name, sentence by sentence: just at each and just beyond it.
 * What calls refuse at their arguments' boundaries is in RefusalsTest.
 */
public final class EdgesTest {
    private static final int UNKNOWN = WinnersLeave.UNKNOWN, OUTSIDE = WinnersLeave.OUTSIDE;
    private static final int STATE = WinnersLeave.STATE, FULL = WinnersLeave.FULL, NONE = WinnersLeave.NONE;
    private static final long LOST = WinnersLeave.LOST;
    private static final String SIX = "v;p12;l34;c56;p78;l90;c09";
    private static final Due DUE = new Due("EdgesTest");

    public static void main(String[] args) {
        texts();
        peopleAndGames();
        seasons();
        whoPlaysWhom();
        ordersAndDrops();
        howGamesWent();
        sheetsAndParts();
        lastCall();
        DUE.end();
    }

    private static int told(String text) {
        return Due.harbour(new WinnersLeave(), text);
    }

    // ---- Terms 1

    private static void texts() {
        twoToSixPeople();
        firstFaultAtEachPlace();
        codesNextToThoseOfAText();
        endsTooSoon();
        seventhPerson();
        textsAmongOtherCells();
        codesAreNotCut();
        takenMakesAllAnew();
    }

    // "v, then 2 to 6 PEOPLE"
    private static void twoToSixPeople() {
        for (int people = 0; people <= 6; people++) {
            int codes = 1 + 4 * people;
            DUE.is(people + " people", told(SIX.substring(0, codes)), people < 2 ? -100 - codes : people);
        }
        DUE.is("7 people", told(SIX + ";p12"), -125);
    }

    // "the place (from 0 on) of the first code with which no TEXT goes on"
    private static void firstFaultAtEachPlace() {
        for (int place = 0; place < SIX.length(); place++) {
            char[] codes = SIX.toCharArray();
            codes[place] = 'x';
            DUE.is("wrong at " + place, told(new String(codes)), -100 - place);
            codes[SIX.length() - 1] = 'x';
            DUE.is("the first of two wrong at " + place, told(new String(codes)), -100 - place);
            DUE.is("wrong at the end " + place, told(SIX.substring(0, place) + 'x'), -100 - place);
        }
    }

    private static boolean fits(int place, int code) {
        String codes = place == 0 ? "v" : new String[] {";", "plc", "0123456789", "0123456789"}[(place - 1) % 4];
        return codes.indexOf(code) >= 0;
    }

    // "; and a letter, a digit 0 .. 9, a digit 0 .. 9": every code, so also 47 and 58, 111 and 113, 58 and 60
    private static void codesNextToThoseOfAText() {
        for (int place = 0; place < 9; place++) {
            for (int code = 0; code < 256; code++) {
                char[] codes = SIX.substring(0, 9).toCharArray();
                codes[place] = (char) code;
                DUE.is(code + " at " + place, told(new String(codes)), fits(place, code) ? 2 : -100 - place);
            }
        }
    }

    // "how many codes there are, if it just ends too soon"
    private static void endsTooSoon() {
        for (int n = 0; n <= SIX.length(); n++) {
            boolean whole = n == 9 || n == 13 || n == 17 || n == 21 || n == 25;
            DUE.is(n + " codes", told(SIX.substring(0, n)), whole ? n / 4 : -100 - n);
        }
    }

    // "(the ; of a seventh PERSON)"
    private static void seventhPerson() {
        DUE.is("its ;", told(SIX + ";"), -125);
        DUE.is("all of it", told(SIX + ";p00"), -125);
        DUE.is("two more", told(SIX + ";p00;p00"), -125);
        DUE.is("another code there", told(SIX + "p"), -125);
        DUE.is("; of a sixth that ends", told(SIX.substring(0, 22)), -122);
        DUE.is("as many as a sheet has", told(SIX + ";p00".repeat(8) + ";p0"), -125);
    }

    // "a TEXT of n cells of a SHEET from i on": what is ahead and behind is not looked at
    private static void textsAmongOtherCells() {
        WinnersLeave x = new WinnersLeave();
        int[] cells = new int[60];
        for (int i = 0; i < SIX.length(); i++) {
            cells[35 + i] = SIX.charAt(i);
        }
        Due.row(x, 0, 0, cells);
        DUE.is("the last 25 of 60", x.harbour(0, 0, 35, 25), 6);
        DUE.is("one ahead", x.harbour(0, 0, 34, 26), -100);
        DUE.is("one behind is not there", x.harbour(0, 0, 35, 26), -13);
        DUE.is("the first nine of them", x.harbour(0, 0, 35, 9), 2);
        DUE.is("from the second on", x.harbour(0, 0, 36, 9), -100);
    }

    private static void codesAreNotCut() {
        WinnersLeave x = new WinnersLeave();
        int[] codes = "v;p12;l34".chars().toArray();
        for (int lane = 0; lane < 3; lane++) {
            for (int more : new int[] {256, 65536, -256}) {
                int[] cells = codes.clone();
                cells[8] += more;
                Due.row(x, 0, lane, cells);
                boolean cutAway = lane == 0 || lane == 1 && more == 65536;
                DUE.is(more + " more in lane " + lane, x.harbour(0, lane, 0, 9), cutAway ? 2 : -108);
            }
        }
    }

    // "A TEXT that is taken makes all anew: nobody is GONE, no games, no READINGS."
    private static void takenMakesAllAnew() {
        WinnersLeave x = Due.town("v;p90;p80;p70;p00");
        x.shy(0, 3);
        x.shy(1, 3);
        x.shy(2, 3);
        for (int r = 0; r < 8; r++) {
            x.reading(0, 1, 0, 1);
        }
        Due.harbour(x, "v;p90;p80;p70;p0");
        DUE.is("by one not taken: gone", x.many(1), 3);
        DUE.is("by one not taken: games", x.many(2), 3);
        DUE.is("by one not taken: readings", x.many(3), 8);
        Due.harbour(x, "v;p90;p80;p70;p00");
        DUE.alike("by one taken", Asked.all(x), Asked.all(freshly("v;p90;p80;p70;p00")));
        DUE.is("readings from 0 on", x.reading(0, 1, 0, 1), 0);
        DUE.is("they are here again", x.shy(0, 3), 0);
        Due.harbour(x, "v;p90;p80");
        DUE.is("none beyond a smaller one", x.ofPerson(2, 0), UNKNOWN);
    }

    private static WinnersLeave freshly(String text) {
        WinnersLeave x = new WinnersLeave();
        Due.harbour(x, text);
        return x;
    }

    // ---- Terms 1, 2

    private static void peopleAndGames() {
        bestAndWorst();
        gamesOfNextNumbers();
        bothGone();
        fetchedToTheLast();
    }

    private static void canPlay(String one, int worst, int best) {
        WinnersLeave x = Due.town("v;" + one + ";p09");
        DUE.is("BEST of " + one, x.ofPerson(0, 3), best);
        DUE.is("WORST of " + one, x.ofPerson(0, 4), worst);
        DUE.is("below WORST of " + one, x.game(0, 1, worst - 1, 0), OUTSIDE);
        DUE.is("above BEST of " + one, x.game(0, 1, best + 1, 0), OUTSIDE);
        DUE.is("WORST of " + one, x.game(0, 1, worst, 0), worst > 0 ? 0 : NONE);
        x = Due.town("v;" + one + ";p09");
        DUE.is("BEST of " + one, x.game(1, 0, 0, best), best > 0 ? 0 : NONE);
    }

    // "a PLAYER STRENGTH; a LEFTY 1 more; a CHAMPION twice what a PLAYER does. WORST: .. 0 at least."
    private static void bestAndWorst() {
        canPlay("p00", 0, 0);
        canPlay("p01", 0, 0);
        canPlay("p54", 1, 5);
        canPlay("p55", 0, 5);
        canPlay("p56", 0, 5);
        canPlay("p90", 9, 9);
        canPlay("p99", 0, 9);
        canPlay("l00", 1, 1);
        canPlay("l01", 0, 1);
        canPlay("l02", 0, 1);
        canPlay("l89", 0, 9);
        canPlay("l99", 1, 10);
        canPlay("c00", 0, 0);
        canPlay("c01", 0, 0);
        canPlay("c47", 1, 8);
        canPlay("c48", 0, 8);
        canPlay("c49", 0, 8);
        canPlay("c59", 1, 10);
        canPlay("c99", 9, 18);
        canPlay("c90", 18, 18);
    }

    // "who plays better WINS and is GONE; it is a DRAW, if both play alike"
    private static void gamesOfNextNumbers() {
        for (int y = 4; y <= 6; y++) {
            WinnersLeave x = Due.town("v;p99;p99");
            DUE.is("5 and " + y, x.game(0, 1, 5, y), y < 5 ? 0 : y == 5 ? NONE : 1);
            DUE.is("0 gone", x.ofPerson(0, 5), y < 5 ? 1 : 0);
            DUE.is("1 gone", x.ofPerson(1, 5), y > 5 ? 1 : 0);
            DUE.is("a game", x.many(2), 1);
            x = Due.town("v;p50;p" + y + "0");
            DUE.is("shy 5 and " + y, x.shy(0, 1), y < 5 ? 0 : y == 5 ? NONE : 1);
        }
    }

    // "STATE: either is GONE"
    private static void bothGone() {
        WinnersLeave x = Due.town("v;p90;p80;p00");
        x.shy(0, 2);
        x.shy(1, 2);
        DUE.is("game of two gone", x.game(0, 1, 9, 8), STATE);
        DUE.is("shy game of two gone", x.shy(0, 1), STATE);
        DUE.is("one is back", x.fetch(0), 1);
        DUE.is("the other is gone yet", x.shy(0, 1), STATE);
        DUE.is("both are back", x.fetch(1), 0);
        DUE.is("they play", x.shy(0, 1), 0);
        DUE.is("games that were played", x.many(2), 3);
    }

    // "how many are GONE yet"; "STATE: he is not GONE"
    private static void fetchedToTheLast() {
        WinnersLeave x = Due.town("v;p90;p80;p70;p60;p50;p00");
        for (int p = 0; p < 5; p++) {
            x.shy(p, 5);
        }
        for (int p = 4; p >= 0; p--) {
            DUE.is("fetch " + p, x.fetch(p), p);
            DUE.is("fetch again " + p, x.fetch(p), STATE);
        }
        DUE.is("one who never went", x.fetch(5), STATE);
    }

    // ---- Terms 2, a SEASON

    private static void seasons() {
        seasonsOfLearning();
        firstWrongs();
        firstWrongIsTheLastOfTwenty();
        seasonAnswersAtTheEdges();
        seasonIsFromNow();
        seasonAmongOtherCells();
    }

    private static void season(String what, WinnersLeave x, int asked, int due, int... acts) {
        Due.row(x, 0, 2, acts);
        String told = what + " " + Arrays.toString(acts) + " asked " + asked;
        DUE.is(told, x.season(0, 2, 0, acts.length / 2, asked), due);
        DUE.is("fault() of " + told, x.fault(), 0);
    }

    // "and 20 .. 29: his FEINT becomes that less 20"
    private static void seasonsOfLearning() {
        for (int act = 20; act <= 29; act++) {
            for (int worst = 0; worst <= 9; worst++) {
                WinnersLeave x = Due.town("v;p95;p" + worst + "0");
                int his = 29 - act;
                season("plays " + his, x, 4, his > worst ? 0 : his < worst ? 1 : NONE, 0, act, 0, 1);
                season("plays " + his, x, 3, his == worst ? 1 : 0, 0, act, 0, 1);
            }
        }
    }

    // "FIRST WRONG: .. (either is GONE, is himself, there is no such PERSON; he is not GONE)"
    private static void firstWrongs() {
        WinnersLeave x = Due.town("v;p90;p80;p00;p00;p00");
        season("himself", x, 1, 0, 0, 0);
        season("no such person", x, 1, 0, 0, 5);
        season("the last person", x, 1, NONE, 0, 4);
        season("he is not gone", x, 1, 0, 0, 10);
        season("he is gone", x, 1, NONE, 0, 2, 0, 10);
        season("he is not gone any more", x, 1, 2, 0, 2, 0, 10, 0, 10);
        season("the first is gone", x, 1, 1, 0, 2, 0, 3);
        season("the second is gone", x, 1, 1, 0, 2, 3, 0);
        season("both are gone", x, 1, 2, 0, 2, 1, 2, 0, 1);
        season("the loser plays on", x, 1, NONE, 0, 2, 2, 1);
        season("a draw: both play on", x, 1, NONE, 2, 3, 2, 3, 3, 2);
        season("one gone learns", x, 1, NONE, 0, 2, 0, 29);
        x.shy(0, 4);
        season("gone now", x, 1, 0, 0, 2);
        season("gone now, fetched", x, 1, NONE, 0, 10, 0, 2);
    }

    // "of one with a FIRST WRONG: -100 less that (but what 1)"; n is 20 at most
    private static void firstWrongIsTheLastOfTwenty() {
        WinnersLeave x = Due.town("v;p90;p80;p00");
        int[] acts = new int[40];
        for (int j = 0; j < 20; j++) {
            acts[2 * j] = 2;
            acts[2 * j + 1] = 20;
        }
        season("twenty", x, 1, NONE, acts);
        season("twenty", x, 0, 3, acts);
        acts[39] = 10;
        season("the last is wrong", x, 1, 19, acts);
        for (int asked : new int[] {0, 2, 3, 4, 10, 11, 12, 13, 14, 15}) {
            season("the last is wrong", x, asked, -119, acts);
        }
        DUE.is("nineteen", x.season(0, 2, 0, 19, 1), NONE);
        acts[1] = 10;
        season("the first is wrong", x, 1, 0, acts);
        season("the first is wrong", x, 0, -100, acts);
        season("the first is wrong, no such person is asked", x, 15, -100, acts);
    }

    // "who went last in it (4; NONE: nobody did), in how many GAMES .. (10 and k; NONE: there is no such PERSON)"
    private static void seasonAnswersAtTheEdges() {
        WinnersLeave x = Due.town("v;p90;p80;p00;p00;p00;p00");
        int[] asked = {0, 1, 2, 3, 4, 10, 11, 12, 13, 14, 15};
        int[] ofNone = {6, NONE, 0, 0, NONE, 0, 0, 0, 0, 0, 0};
        int[] ofSome = {5, NONE, 1, 1, 0, 1, 1, 2, 0, 0, 2};
        for (int j = 0; j < asked.length; j++) {
            season("no acts", x, asked[j], ofNone[j]);
            season("some acts", x, asked[j], ofSome[j], 5, 2, 1, 2, 0, 5, 1, 10);
        }
        season("a draw alone: nobody went", x, 4, NONE, 2, 3);
        season("he went, though he is back", x, 4, 0, 0, 2, 0, 10);
        season("all but one go", x, 0, 4, 0, 5, 1, 5);
        WinnersLeave five = Due.town("v;p90;p80;p00;p00;p00");
        season("PERSON 4 is the last", five, 14, 0, 0, 1);
        season("there is no PERSON 5", five, 15, NONE, 0, 1);
        x.shy(0, 5);
        season("no acts, one gone now", x, 0, 5);
        season("no acts, one gone now", x, 2, 1);
        season("no acts, nobody went in it", x, 4, NONE);
    }

    // "from how all is now (nothing is changed)"
    private static void seasonIsFromNow() {
        WinnersLeave x = Due.town("v;p90;p80;p00");
        Due.row(x, 0, 2, 0, 2, 1, 2, 0, 10, 0, 29, 2, 25);
        WinnersLeave same = Due.town("v;p90;p80;p00");
        Due.row(same, 0, 2, 0, 2, 1, 2, 0, 10, 0, 29, 2, 25);
        for (int asked : new int[] {0, 1, 2, 3, 4, 10, 15}) {
            x.season(0, 2, 0, 5, asked);
        }
        DUE.alike("nothing is changed", Asked.all(x), Asked.all(same));
    }

    // "cells of a SHEET from i on (2 n)": what is ahead and behind is not looked at
    private static void seasonAmongOtherCells() {
        for (int lane = 0; lane < 3; lane++) {
            WinnersLeave x = Due.town("v;p90;p80;p00");
            Due.row(x, 0, lane, 99, 99, 0, 2, 1, 2, 99, 99);
            DUE.is("two acts", x.season(0, lane, 2, 2, 2), 0b11);
            DUE.is("one act", x.season(0, lane, 2, 1, 2), 0b01);
            DUE.is("the other act", x.season(0, lane, 4, 1, 2), 0b10);
            DUE.is("no act", x.season(0, lane, 6, 0, 2), 0);
            DUE.is("one behind", x.season(0, lane, 2, 3, 2), OUTSIDE);
            DUE.is("one ahead", x.season(0, lane, 0, 3, 2), OUTSIDE);
        }
    }

    // ---- Terms 3

    private static void whoPlaysWhom() {
        safeAndSureOfNextNumbers();
        commonOfNextRanges();
        pairsOfOneToSix();
        pairsOfSeveralTheFirst();
        pairsWhereOneIsLeftOver();
    }

    // "SAFE .. if he can play so that he does not WIN, however that one plays"; "against whom he WINS, however both play"
    private static void safeAndSureOfNextNumbers() {
        for (int worst = 4; worst <= 6; worst++) {
            WinnersLeave x = Due.town("v;p" + worst + "0;p94");
            DUE.is(worst + " with a WORST of 5", x.safe(0, 1), worst <= 5 ? 1 : 0);
            x = Due.town("v;p9" + (9 - worst) + ";p52");
            DUE.is(worst + " sure of a BEST of 5", x.sure(0), worst > 5 ? 0b10 : 0);
        }
        WinnersLeave six = Due.town("v;p00;p90;p00;p00;p00;p00");
        DUE.is("all others", six.sure(1), 0b111101);
        DUE.is("never himself", six.sure(0), 0);
        six.train(5, 3);
        six.shy(5, 0);
        DUE.is("not one who is gone", six.sure(1), 0b011101);
        six.fetch(5);
        DUE.is("one who is back", six.sure(1), 0b111101);
    }

    private static void commonOfNextRanges() {
        for (int best = 3; best <= 8; best++) {
            WinnersLeave x = Due.town("v;p" + best + "1;p62");
            int[] due = {0, 1, 2, 2, 1, 0};
            DUE.is("up to " + best + " and 4 .. 6", x.common(0, 1), due[best - 3]);
            DUE.is("4 .. 6 and up to " + best, x.common(1, 0), due[best - 3]);
        }
        DUE.is("one number alike", Due.town("v;p00;p00").common(0, 1), 1);
        DUE.is("all numbers alike", Due.town("v;p99;p99").common(0, 1), 10);
        DUE.is("far apart", Due.town("v;p00;c90").common(0, 1), 0);
    }

    private static void pairs(WinnersLeave x, int gone, int... row) {
        DUE.is("gone by pairs " + Arrays.toString(row), x.pairs(-1), gone);
        for (int k = 0; k < 6; k++) {
            DUE.is("pairs(" + k + ") " + Arrays.toString(row), x.pairs(k), k < row.length ? row[k] : NONE);
        }
    }

    // "those who are not GONE in twos, as many as can be"
    private static void pairsOfOneToSix() {
        WinnersLeave x = Due.town("v;p90;p80;p70;p60;p50;p00");
        pairs(x, 3, 1, 0, 3, 2, 5, 4);
        x.shy(0, 5);
        pairs(x, 2, NONE, 2, 1, 4, 3, NONE);
        x.shy(1, 5);
        pairs(x, 2, NONE, NONE, 3, 2, 5, 4);
        x.shy(2, 5);
        pairs(x, 1, NONE, NONE, NONE, 4, 3, NONE);
        x.shy(3, 5);
        pairs(x, 1, NONE, NONE, NONE, NONE, 5, 4);
        x.shy(4, 5);
        pairs(x, 0, NONE, NONE, NONE, NONE, NONE, NONE);
        x.fetch(0);
        pairs(x, 1, 5, NONE, NONE, NONE, NONE, 0);
        DUE.is("as many twos as can be, though one goes", Due.town("v;p90;p80").pairs(-1), 1);
    }

    // "of several the first as a row (of whom PERSON 0, 1, .. plays; none is told as 9)"
    private static void pairsOfSeveralTheFirst() {
        pairs(Due.town("v;p50;p50;p50;p50"), 0, 1, 0, 3, 2);
        pairs(Due.town("v;p10;p20;p30;p40"), 2, 1, 0, 3, 2);
        pairs(Due.town("v;p10;p20;p10;p20"), 0, 2, 3, 0, 1);
        pairs(Due.town("v;p10;p20;p20;p10"), 0, 3, 2, 1, 0);
        pairs(Due.town("v;p10;p20;p30;p20"), 1, 2, 3, 0, 1);
        pairs(Due.town("v;p10;p20;p30;p10;p10;p10"), 1, 3, 2, 1, 0, 5, 4);
    }

    private static void pairsWhereOneIsLeftOver() {
        pairs(Due.town("v;p50;p50;p50"), 0, 1, 0, NONE);
        pairs(Due.town("v;p50;p40;p50"), 0, 2, NONE, 0);
        pairs(Due.town("v;p40;p50;p50"), 0, NONE, 2, 1);
        pairs(Due.town("v;p40;p50;p60"), 1, 1, 0, NONE);
        pairs(Due.town("v;p10;p20;p20;p30;p30"), 0, NONE, 2, 1, 4, 3);
        pairs(Due.town("v;p10;p20;p30;p40;p10"), 1, 4, 2, 1, NONE, 0);
    }

    // ---- Terms 3, ORDERS and DROPS

    private static void ordersAndDrops() {
        ordersOfNoTwos();
        ordersOfAllPlaces();
        noOrder();
        dropsOfNoTwos();
        dropsOfTenTwos();
        leastOfSeveralDrops();
        twosAmongOtherCells();
    }

    private static void orders(WinnersLeave x, int many, int[] row, int... twos) {
        Due.row(x, 0, 0, twos);
        String told = "orders by " + Arrays.toString(twos) + " of " + x.many(0);
        DUE.is(told, x.orders(0, 0, 0, twos.length / 2, -1), many);
        for (int k = 0; k < 6; k++) {
            DUE.is(told + " place " + k, x.orders(0, 0, 0, twos.length / 2, k), k < row.length ? row[k] : NONE);
        }
    }

    private static void ordersOfNoTwos() {
        int many = 1;
        for (int people = 2; people <= 6; people++) {
            many *= people;
            int[] row = Arrays.copyOf(new int[] {0, 1, 2, 3, 4, 5}, people);
            orders(Due.town(SIX.substring(0, 1 + 4 * people)), many, row);
        }
    }

    // "rows of all PEOPLE, GONE or not, in which each is ahead of those whom he beat"; n is 10 at most
    private static void ordersOfAllPlaces() {
        WinnersLeave x = Due.town(SIX);
        orders(x, 1, new int[] {5, 4, 3, 2, 1, 0}, 5, 4, 4, 3, 3, 2, 2, 1, 1, 0, 5, 4, 4, 3, 3, 2, 2, 1, 1, 0);
        orders(x, 360, new int[] {1, 2, 3, 4, 5, 0}, 5, 0);
        orders(x, 360, new int[] {0, 1, 2, 3, 4, 5}, 0, 5, 0, 5, 0, 5);
        orders(x, 120, new int[] {1, 2, 3, 4, 5, 0}, 1, 0, 2, 0, 3, 0, 4, 0, 5, 0);
        WinnersLeave two = Due.town("v;p90;p00");
        orders(two, 1, new int[] {1, 0}, 1, 0);
        two.shy(0, 1);
        orders(two, 1, new int[] {1, 0}, 1, 0);
        orders(two, 1, new int[] {0, 1}, 0, 1);
    }

    private static void noOrder() {
        WinnersLeave x = Due.town(SIX);
        orders(x, 0, new int[0], 4, 5, 5, 4);
        orders(x, 0, new int[0], 0, 1, 1, 2, 2, 3, 3, 4, 4, 5, 5, 0);
        orders(x, 1, new int[] {0, 1, 2, 3, 4, 5}, 0, 1, 1, 2, 2, 3, 3, 4, 4, 5);
        orders(Due.town("v;p00;p00"), 0, new int[0], 0, 1, 1, 0);
    }

    private static void drops(WinnersLeave x, int due, int... twos) {
        Due.row(x, 0, 0, twos);
        DUE.is("drops of " + Arrays.toString(twos), x.drops(0, 0, 0, twos.length / 2), due);
    }

    private static void dropsOfNoTwos() {
        for (int people = 2; people <= 6; people++) {
            WinnersLeave x = Due.town(SIX.substring(0, 1 + 4 * people));
            drops(x, 0);
            drops(x, 0, people - 1, 0);
            drops(x, 1, people - 1, 0, 0, people - 1);
        }
    }

    // "as a set of their numbers (from 0 on)": 0 .. 9
    private static void dropsOfTenTwos() {
        WinnersLeave x = Due.town(SIX);
        drops(x, 0b1000000000, 0, 1, 0, 1, 0, 1, 0, 1, 0, 1, 0, 1, 0, 1, 0, 1, 0, 1, 1, 0);
        drops(x, 0b0000000001, 1, 0, 0, 1, 0, 1, 0, 1, 0, 1, 0, 1, 0, 1, 0, 1, 0, 1, 0, 1);
        drops(x, 0b0000011111, 0, 1, 0, 1, 0, 1, 0, 1, 0, 1, 1, 0, 1, 0, 1, 0, 1, 0, 1, 0);
        drops(x, 0b1111000000, 0, 1, 0, 1, 0, 1, 0, 1, 0, 1, 0, 1, 1, 0, 1, 0, 1, 0, 1, 0);
        drops(x, 0b0000000000, 5, 4, 5, 3, 5, 2, 5, 1, 5, 0, 4, 3, 4, 2, 4, 1, 4, 0, 3, 2);
    }

    // "the fewest of these twos .. : of several the least"
    private static void leastOfSeveralDrops() {
        WinnersLeave x = Due.town(SIX);
        drops(x, 0b001, 0, 1, 1, 2, 2, 0);
        drops(x, 0b010, 3, 4, 0, 1, 1, 0);
        drops(x, 0b011, 0, 1, 2, 3, 1, 0, 3, 2);
        drops(x, 0b0110, 0, 1, 1, 0, 1, 0, 0, 1);
        drops(x, 0b100, 0, 1, 0, 1, 1, 0);
        drops(x, 0b10000, 0, 1, 1, 4, 0, 2, 2, 4, 4, 0);
    }

    private static void twosAmongOtherCells() {
        for (int lane = 0; lane < 3; lane++) {
            WinnersLeave x = Due.town("v;p90;p80;p00");
            Due.row(x, 0, lane, 9, 9, 2, 1, 1, 2, 9, 9);
            DUE.is("two: orders", x.orders(0, lane, 2, 2, -1), 0);
            DUE.is("two: drops", x.drops(0, lane, 2, 2), 1);
            DUE.is("the first: orders", x.orders(0, lane, 2, 1, 1), 2);
            DUE.is("the second: orders", x.orders(0, lane, 4, 1, 1), 1);
            DUE.is("none: orders", x.orders(0, lane, 4, 0, -1), 6);
            DUE.is("none: drops", x.drops(0, lane, 4, 0), 0);
            DUE.is("one behind: orders", x.orders(0, lane, 2, 3, -1), UNKNOWN);
            DUE.is("one behind: drops", x.drops(0, lane, 2, 3), UNKNOWN);
            DUE.is("one ahead: orders", x.orders(0, lane, 0, 3, -1), UNKNOWN);
            DUE.is("one ahead: drops", x.drops(0, lane, 0, 3), UNKNOWN);
        }
    }

    // ---- Terms 4

    private static void howGamesWent() {
        eightReadings();
        backToEach();
        readingsOfNextNumbers();
        setsOfAll();
        sharesAtTheEdges();
    }

    // "READINGS, 8 at most, numbered by how many there are"
    private static void eightReadings() {
        WinnersLeave x = Due.town("v;p52;l31");
        for (int r = 0; r < 8; r++) {
            DUE.is("reading " + r, x.reading(0, 1, 0, 2), r);
        }
        DUE.is("a ninth", x.reading(0, 1, 0, 0), FULL);
        DUE.is("it is not there", x.strengths(0), 0b1111100000);
        DUE.is("one back", x.back(1), 7);
        DUE.is("an eighth again", x.reading(0, 1, 0, 0), 7);
        DUE.is("it is there", x.strengths(0), 0);
        DUE.is("a ninth again", x.reading(0, 1, 0, 2), FULL);
    }

    // "The last n READINGS (0 .. as many as there are) are taken back"
    private static void backToEach() {
        for (int there = 0; there <= 8; there++) {
            for (int n = 0; n <= there; n++) {
                WinnersLeave x = Due.town("v;p52;l31");
                for (int r = 0; r < there; r++) {
                    x.reading(0, 1, 0, 2);
                }
                DUE.is("one more than " + there, x.back(there + 1), OUTSIDE);
                DUE.is(n + " of " + there, x.back(n), there - n);
                DUE.is("left", x.many(3), there - n);
            }
        }
    }

    // "the first one lost (0), it was a DRAW (1), he won (2)", "both playing their BEST (0) or their WORST (1)"
    private static void readingsOfNextNumbers() {
        int[] byBest = {0b0000011111, 0b0000100000, 0b1111000000};
        int[] byWorst = {0b0001111111, 0b0010000000, 0b1100000000};
        for (int result = 0; result < 3; result++) {
            WinnersLeave x = Due.town("v;p02;p50");
            x.reading(0, 1, 0, result);
            DUE.is("by BEST " + result, x.strengths(0), byBest[result]);
            DUE.is("FEINT is no matter", x.feints(0), result == 0 ? 1023 : 0);
            x.back(1);
            x.reading(0, 1, 1, result);
            DUE.is("by WORST " + result, x.strengths(0), byWorst[result]);
            x.back(1);
            x.reading(1, 0, 1, result);
            DUE.is("by WORST, the second " + result, x.strengths(0), byWorst[2 - result]);
        }
        WinnersLeave kinds = Due.town("v;p50;p60;p90");
        int[] sets = {0b001, 0b010, 0b100};
        for (int result = 0; result < 3; result++) {
            kinds.reading(0, 1, 0, result);
            DUE.is("kinds " + result, kinds.kinds(0), sets[result]);
            kinds.back(1);
        }
    }

    // "0 .. 9", "0 .. 9", "0 .. 2; as sets"
    private static void setsOfAll() {
        WinnersLeave x = Due.town(SIX);
        for (int p = 0; p < 6; p++) {
            DUE.is("STRENGTHS of " + p, x.strengths(p), 0b1111111111);
            DUE.is("FEINTS of " + p, x.feints(p), 0b1111111111);
            DUE.is("KINDS of " + p, x.kinds(p), 0b111);
        }
        x = Due.town("v;p00;p90");
        x.reading(0, 1, 0, 1);
        DUE.is("9 alone", x.strengths(0), 0b1000000000);
        DUE.is("0 alone", x.strengths(1), 0b0000000001);
        x = Due.town("v;p90;p00");
        x.reading(0, 1, 1, 1);
        DUE.is("FEINT 9 alone", x.feints(0), 0b1000000000);
        x.learn(0, 9);
        x.reading(0, 1, 1, 0);
        DUE.is("none, not both", x.feints(0), 0);
    }

    private static void odds(String first, String second, int upper, int lower) {
        WinnersLeave x = Due.town("v;" + first + ";" + second);
        DUE.is("upper of " + first + " " + second, x.odds(0, 1, 0), upper);
        DUE.is("lower of " + first + " " + second, x.odds(0, 1, 1), lower);
    }

    // "Shares are told as upper and lower number (above 0) in least terms."
    private static void sharesAtTheEdges() {
        odds("p00", "p00", 0, 1);
        odds("p10", "p00", 1, 1);
        odds("p00", "p10", 0, 1);
        odds("p00", "c99", 0, 1);
        odds("c99", "p00", 1, 1);
        odds("p52", "p30", 2, 3);
        odds("p52", "p20", 1, 1);
        odds("p52", "p50", 0, 1);
        odds("p52", "p40", 1, 3);
        odds("p99", "p99", 9, 20);
        odds("c99", "c99", 9, 20);
        odds("p99", "l99", 9, 25);
        odds("l99", "p99", 11, 20);
        odds("p11", "p11", 1, 4);
        odds("p31", "p43", 3, 8);
        odds("p33", "p00", 3, 4);
        odds("p33", "p10", 1, 2);
        odds("p33", "p20", 1, 4);
        odds("p33", "p30", 0, 1);
    }

    // ---- Terms 5

    private static void sheetsAndParts() {
        atFirst();
        rowsOfEachLength();
        lostRows();
        cutToTheirLane();
        copiedAsTheyWere();
        traceOfBodies();
        traceWraps();
        faultAheadOfAny();
        faultIsOfTheLatest();
    }

    // "SHEETS 0 .. 3 have nothing (at first)"; "TRACE (.. 0 at first ..)"
    private static void atFirst() {
        WinnersLeave x = new WinnersLeave();
        DUE.is("TRACE", x.trace(), 0);
        for (int k = 0; k < 4; k++) {
            for (int lane = 0; lane < 3; lane++) {
                DUE.is("nothing on " + k, x.cell(k, 0, lane), LOST);
                DUE.is("NULL on " + k, x.fault(), 1);
            }
            DUE.is("had nothing " + k, x.lose(k), 0);
        }
        DUE.is("before 0", x.lose(-1), UNKNOWN);
        DUE.is("beyond 3", x.lose(4), UNKNOWN);
    }

    // "or a row of 0 .. 60 numbers (0 at first) of a LANE"
    private static void rowsOfEachLength() {
        for (int lane = 0; lane < 3; lane++) {
            for (int n : new int[] {0, 1, 2, 59, 60}) {
                WinnersLeave x = new WinnersLeave();
                Due.row(x, 3, lane, new int[60]);
                x.put(3, 0, 5);
                x.put(3, 59, 5);
                DUE.is("a row of " + n, x.sheet(3, lane, n), 1);
                for (int i = 0; i < n; i++) {
                    DUE.is("0 at first " + i, x.cell(3, i, lane), 0);
                }
                DUE.is("cell " + n + " is not there", x.cell(3, n, lane), LOST);
                DUE.is("put " + n, x.put(3, n, 1), -13);
                DUE.is("put the last of " + n, x.put(3, n - 1, 1), n == 0 ? -13 : 1);
                DUE.is("another lane", x.cell(3, 0, (lane + 1) % 3), LOST);
                DUE.is("CAST, also of a row of " + n, x.fault(), 2);
            }
        }
    }

    // "A SHEET has nothing: 1; 0: it had nothing."
    private static void lostRows() {
        for (int k = 0; k < 4; k++) {
            WinnersLeave x = Due.town("v;p90;p80;p00");
            for (int n : new int[] {60, 0}) {
                x.sheet(k, 1, n);
                x.put(k, 0, 7);
                DUE.is("lose " + k, x.lose(k), 1);
                DUE.is("lose it again", x.lose(k), 0);
                DUE.is("a cell of nothing", x.cell(k, 0, 1), LOST);
                DUE.is("NULL", x.fault(), 1);
                DUE.is("put", x.put(k, 0, 1), -11);
                DUE.is("copy", x.copy(k, 0, k, 0, 0), -11);
                DUE.is("harbour", x.harbour(k, 0, 0, 0), -11);
                DUE.is("season", x.season(k, 1, 0, 0, 0), -11);
                DUE.is("orders", x.orders(k, 2, 0, 0, -1), -11);
                DUE.is("drops", x.drops(k, 1, 0, 0), -11);
            }
            x.sheet(k, 2, 1);
            DUE.is("0 in a row anew", x.cell(k, 0, 2), 0);
            DUE.is("people stay", x.many(0), 3);
        }
    }

    // "what comes to a cell of it is cut to its LANE"
    private static void cutToTheirLane() {
        int[][] cuts = {
            {0, 127, 127}, {0, 128, -128}, {0, -128, -128}, {0, -129, 127}, {0, 255, -1}, {0, 256, 0},
            {0, Integer.MAX_VALUE, -1}, {0, Integer.MIN_VALUE, 0},
            {1, 32767, 32767}, {1, 32768, -32768}, {1, -32768, -32768}, {1, -32769, 32767}, {1, 65535, -1},
            {1, 65536, 0}, {1, Integer.MAX_VALUE, -1}, {1, Integer.MIN_VALUE, 0}, {1, 128, 128}, {1, -129, -129},
            {2, 32768, 32768}, {2, -32769, -32769}, {2, 65536, 65536},
            {2, Integer.MAX_VALUE, Integer.MAX_VALUE}, {2, Integer.MIN_VALUE, Integer.MIN_VALUE},
        };
        for (int[] c : cuts) {
            WinnersLeave x = new WinnersLeave();
            x.sheet(0, c[0], 3);
            x.sheet(1, c[0], 3);
            DUE.is("put " + c[1], x.put(0, 1, c[1]), 1);
            DUE.is(c[1] + " in lane " + c[0], x.cell(0, 1, c[0]), c[2]);
            DUE.is("ahead of it", x.cell(0, 0, c[0]), 0);
            DUE.is("behind it", x.cell(0, 2, c[0]), 0);
            x.copy(0, 1, 1, 2, 1);
            DUE.is("copied " + c[1] + " in lane " + c[0], x.cell(1, 2, c[0]), c[2]);
        }
    }

    // "go to another one (perhaps the same) from j on, as they were"
    private static void copiedAsTheyWere() {
        for (int i = 0; i <= 4; i++) {
            for (int j = 0; j <= 4; j++) {
                for (int n = 0; n <= 5; n++) {
                    copiedInItself(i, j, n);
                }
            }
        }
    }

    private static void copiedInItself(int i, int j, int n) {
        String told = "copy " + i + " " + j + " " + n;
        int[] due = {1, 2, 3, 4};
        WinnersLeave x = new WinnersLeave();
        Due.row(x, 0, 1, due);
        boolean there = i + n <= 4 && j + n <= 4;
        DUE.is(told, x.copy(0, i, 0, j, n), there ? n : -13);
        if (there) {
            System.arraycopy(due.clone(), i, due, j, n);
        }
        for (int c = 0; c < 4; c++) {
            DUE.is(told + " cell " + c, x.cell(0, c, 1), due[c]);
        }
    }

    // "leave their number in TRACE .. as they begin"
    private static void traceOfBodies() {
        int[] tellings = {0, 100, 100, 9, 109, 118};
        int[] traces = {1, 63, 91327, 1, 63, 91327};
        int[] waves = {7, 8, 30, 0, 9, 30};
        int[] traced = {4, 4, 5, 4, 4, 5};
        String people = "v;p07;l08;c09;p90;l99;c90";
        for (int p = 0; p < 6; p++) {
            WinnersLeave x = Due.town(people);
            DUE.is("tell " + p, x.tell(p), tellings[p]);
            DUE.is("trace of it", x.trace(), traces[p]);
            x = Due.town(people);
            DUE.is("wave " + p, x.wave(p), waves[p]);
            DUE.is("trace of it", x.trace(), traced[p]);
            DUE.is("asking again changes nothing", x.trace(), traced[p]);
        }
        WinnersLeave x = Due.town("v;p90;p00");
        x.shy(0, 1);
        DUE.is("one gone is told of", x.tell(0), 9);
        DUE.is("one gone is waved to", x.wave(0), 0);
    }

    // "an int that wraps"
    private static void traceWraps() {
        WinnersLeave x = Due.town("v;p00;c00");
        int[] due = {5, 160, 4965, 153920, 4771525, 147917280, 290468389, 414585472, -32752251, -1015319776};
        for (int turn = 0; turn < due.length; turn++) {
            x.wave(1);
            DUE.is("TRACE after " + (turn + 1), x.trace(), due[turn]);
        }
    }

    // "(0 ahead of any)"
    private static void faultAheadOfAny() {
        WinnersLeave x = new WinnersLeave();
        DUE.is("of a new object", x.fault(), 0);
        x.ofPerson(0, 0);
        x.pairs(0);
        x.odds(0, 1, 0);
        x.lose(0);
        x.many(9);
        DUE.is("ahead of any that names one", x.fault(), 0);
        x.harbour(9, 0, 0, 0);
        DUE.is("a refused one", x.fault(), 0);
        x.cell(0, 0, 0);
        DUE.is("the first of all", x.fault(), 1);
        DUE.is("asked again", x.fault(), 1);
    }

    // "The FAULT of the latest call that names one: 0: it came to none, or was refused"
    private static void faultIsOfTheLatest() {
        WinnersLeave x = Due.town("v;p00;c00");
        x.sheet(0, 0, 1);
        int[][] due = {{-11, 1}, {-12, 2}, {-13, 3}, {-14, 4}, {1, 0}, {-14, 4}, {UNKNOWN, 0}, {-12, 2}, {OUTSIDE, 0}};
        long[] got = new long[due.length];
        for (int j = 0; j < due.length; j++) {
            got[j] = step(x, j);
            DUE.is("step " + j, got[j], due[j][0]);
            DUE.is("fault of step " + j, x.fault(), due[j][1]);
            x.ofPerson(9, 9);
            x.lose(9);
            DUE.is("fault yet of step " + j, x.fault(), due[j][1]);
        }
    }

    private static long step(WinnersLeave x, int j) {
        switch (j) {
            case 0: return x.put(1, 0, 0);
            case 1: return x.as(0, 1);
            case 2: return x.copy(0, 0, 0, 0, 2);
            case 3: return x.sheet(0, 0, -1);
            case 4: return x.put(0, 0, 1);
            case 5: return x.harbour(0, 0, 0, -1);
            case 6: return x.put(4, 0, 0);
            case 7: return x.drops(0, 1, 0, 0);
            default: return x.as(1, 3);
        }
    }

    // "An object is used for at most 512 calls": the last of them is answered as any other
    private static void lastCall() {
        WinnersLeave x = new WinnersLeave();
        int calls = 11;
        Due.row(x, 3, 1, "v;p52;l31".chars().toArray());
        DUE.is("harbour", x.harbour(3, 1, 0, 9), 2);
        int trace = 0;
        for (; calls < 511; calls++) {
            DUE.is("call " + calls, x.wave(0), 2);
            trace = 31 * trace + 4;
        }
        DUE.is("the 512th call", x.trace(), trace);
    }
}

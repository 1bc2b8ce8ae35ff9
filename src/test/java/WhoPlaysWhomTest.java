/** Promises 10 to 15: safe, sure, common, pairs, orders, drops. */
public final class WhoPlaysWhomTest {
    private static final int UNKNOWN = WinnersLeave.UNKNOWN;
    private static final int OUTSIDE = WinnersLeave.OUTSIDE;
    private static final int STATE = WinnersLeave.STATE;
    private static final int NONE = WinnersLeave.NONE;
    private static final Due DUE = new Due("WhoPlaysWhomTest");

    public static void main(String[] args) {
        safety();
        sureWins();
        commonNumbers();
        twoPeopleRefusals();
        pairsFewestGo();
        pairsOfFew();
        pairsRefusals();
        ordersByTwos();
        ordersOfAllPeople();
        dropsOfTwos();
        rowRefusals();
        DUE.end();
    }

    private static void safety() {
        // WORST .. BEST: 3 .. 5, 3 .. 4, 4 .. 4, 0 .. 0
        WinnersLeave x = Due.town("v;p52;l31;c20;p09");
        int[] worst = {3, 3, 4, 0};
        for (int a = 0; a < 4; a++) {
            for (int b = 0; b < 4; b++) {
                if (a != b) {
                    DUE.is("safe " + a + " " + b, x.safe(a, b), worst[a] <= worst[b] ? 1 : 0);
                }
            }
        }
        x.shy(2, 0);
        DUE.is("of one gone", x.safe(2, 0), 0);
        DUE.is("with one gone", x.safe(0, 2), 1);
    }

    private static void sureWins() {
        WinnersLeave x = Due.town("v;p95;l20;p40;p39;c30;p31");
        // 4 .. 9, 3 .. 3, 4 .. 4, 0 .. 3, 6 .. 6, 2 .. 3
        DUE.is("4 over 3s", x.sure(0), 0b101010);
        DUE.is("3 over none", x.sure(1), 0);
        DUE.is("4 over 3s, too", x.sure(2), 0b101010);
        DUE.is("0 over none", x.sure(3), 0);
        DUE.is("6", x.sure(4), 0b101110);
        x.shy(1, 5);
        DUE.is("not those who are gone", x.sure(4), 0b101100);
        x.shy(4, 0);
        DUE.is("one gone himself", x.sure(4), 0b101100);
        DUE.is("over the first one, too", Due.town("v;p00;p50;p40").sure(1), 0b101);
        DUE.is("-1", x.sure(-1), UNKNOWN);
        DUE.is("6th", x.sure(6), UNKNOWN);
    }

    private static void commonNumbers() {
        WinnersLeave x = Due.town("v;p95;p72;p40;p32;p99");
        // 4 .. 9, 5 .. 7, 4 .. 4, 1 .. 3, 0 .. 9
        int[] due = {3, 1, 0, 6, 0, 0, 3, 0, 1, 3};
        int j = 0;
        for (int a = 0; a < 5; a++) {
            for (int b = a + 1; b < 5; b++) {
                DUE.is("common " + a + " " + b, x.common(a, b), due[j]);
                DUE.is("common " + b + " " + a, x.common(b, a), due[j]);
                j++;
            }
        }
        x.shy(0, 3);
        DUE.is("of one gone", x.common(0, 1), 3);
    }

    private static void twoPeopleRefusals() {
        WinnersLeave x = Due.town("v;p95;p72;p40");
        int[][] wrong = {{-1, 0}, {0, -1}, {3, 0}, {0, 3}, {1, 1}, {-1, -1}, {Integer.MIN_VALUE, Integer.MAX_VALUE}};
        for (int[] two : wrong) {
            DUE.is("safe " + two[0] + " " + two[1], x.safe(two[0], two[1]), UNKNOWN);
            DUE.is("common " + two[0] + " " + two[1], x.common(two[0], two[1]), UNKNOWN);
        }
    }

    private static void pairs(String what, WinnersLeave x, int gone, int... row) {
        DUE.is(what + ", how many", x.pairs(-1), gone);
        for (int k = 0; k < 6; k++) {
            DUE.is(what + ", of " + k, x.pairs(k), k < row.length ? row[k] : NONE);
        }
    }

    private static void pairsFewestGo() {
        pairs("all alike", Due.town("v;p50;p50;p50;p50;p50;p50"), 0, 1, 0, 3, 2, 5, 4);
        pairs("alike from afar", Due.town("v;p10;p20;p30;p30;p20;p10"), 0, 5, 4, 3, 2, 1, 0);
        pairs("none alike", Due.town("v;p10;p20;p30;p40;p50;p60"), 3, 1, 0, 3, 2, 5, 4);
        pairs("one two alike", Due.town("v;p10;p20;p30;p40;p10;p60"), 2, 4, 2, 1, 5, 0, 3);
        pairs("the first rests", Due.town("v;p10;p20;p30;p20;p30"), 0, NONE, 3, 4, 1, 2);
        pairs("the last rests", Due.town("v;p10;p10;p30;p20;p90"), 1, 1, 0, 3, 2, NONE);
        pairs("by WORST, not BEST", Due.town("v;p90;p50;p94;p20"), 1, 3, 2, 1, 0);
        pairs("by feints", Due.town("v;p94;p20;p50;p97"), 0, 2, 3, 0, 1);
    }

    private static void pairsOfFew() {
        WinnersLeave x = Due.town("v;p10;p20;p30;p10");
        x.shy(2, 0);
        pairs("three are here", x, 0, 3, NONE, NONE, 0);
        x.shy(1, 0);
        pairs("two are here", x, 0, 3, NONE, NONE, 0);
        x.train(0, 5);
        x.shy(0, 3);
        pairs("one is here", x, 0, NONE, NONE, NONE, NONE);
        DUE.is("nothing changed", x.many(1), 3);
        DUE.is("no games", x.many(2), 3);
        pairs("two people", Due.town("v;p10;p20"), 1, 1, 0);
    }

    private static void pairsRefusals() {
        WinnersLeave x = new WinnersLeave();
        DUE.is("no harbour", x.pairs(0), STATE);
        DUE.is("no harbour, -1", x.pairs(-1), STATE);
        DUE.is("outside ahead of state", x.pairs(6), OUTSIDE);
        DUE.is("-2", x.pairs(-2), OUTSIDE);
        Due.harbour(x, "v;p10;p20");
        DUE.is("6", x.pairs(6), OUTSIDE);
        DUE.is("far", x.pairs(Integer.MIN_VALUE), OUTSIDE);
        DUE.is("no such person", x.pairs(2), NONE);
    }

    private static void orders(WinnersLeave x, int[] twos, int many, int... row) {
        Due.row(x, 0, 2, twos);
        String what = java.util.Arrays.toString(twos);
        DUE.is(what + " orders", x.orders(0, 2, 0, twos.length / 2, -1), many);
        for (int k = 0; k < 6; k++) {
            DUE.is(what + " place " + k, x.orders(0, 2, 0, twos.length / 2, k), k < row.length ? row[k] : NONE);
        }
    }

    private static void ordersByTwos() {
        WinnersLeave x = Due.town("v;p10;p20;p30;p40;p50;p60");
        orders(x, new int[] {}, 720, 0, 1, 2, 3, 4, 5);
        orders(x, new int[] {5, 0}, 360, 1, 2, 3, 4, 5, 0);
        orders(x, new int[] {5, 4, 4, 3, 3, 2, 2, 1, 1, 0}, 1, 5, 4, 3, 2, 1, 0);
        orders(x, new int[] {3, 0, 3, 0, 3, 0}, 360, 1, 2, 3, 0, 4, 5);
        orders(x, new int[] {3, 0, 2, 3}, 120, 1, 2, 3, 0, 4, 5);
        orders(x, new int[] {1, 0, 0, 1}, 0);
        orders(x, new int[] {5, 1, 1, 3, 3, 5}, 0);
        orders(x, new int[] {0, 1, 0, 2, 3, 1, 3, 2}, 120, 0, 3, 1, 2, 4, 5);
    }

    private static void ordersOfAllPeople() {
        WinnersLeave x = Due.town("v;p10;p20;p30");
        x.shy(2, 1);
        x.shy(1, 0);
        orders(x, new int[] {2, 0}, 3, 1, 2, 0);
        Due.row(x, 1, 0, 9, 2, 1, 1, 0, 9);
        DUE.is("from i on", x.orders(1, 0, 1, 2, -1), 1);
        DUE.is("from i on, place 0", x.orders(1, 0, 1, 2, 0), 2);
        DUE.is("drops from i on", x.drops(1, 0, 1, 2), 0);
        DUE.is("drops of none at the end", x.drops(1, 0, 6, 0), 0);
        orders(Due.town("v;p10;p20"), new int[] {}, 2, 0, 1);
    }

    private static void drops(WinnersLeave x, int due, int... twos) {
        Due.row(x, 0, 1, twos);
        DUE.is("drops of " + java.util.Arrays.toString(twos), x.drops(0, 1, 0, twos.length / 2), due);
    }

    private static void dropsOfTwos() {
        WinnersLeave x = Due.town("v;p10;p20;p30;p40;p50;p60");
        drops(x, 0);
        drops(x, 0, 0, 1);
        drops(x, 0b1, 0, 1, 1, 0);
        drops(x, 0b10, 0, 1, 1, 0, 0, 1);
        drops(x, 0b101, 0, 1, 1, 0, 0, 1, 1, 0);
        drops(x, 0b1, 0, 1, 1, 2, 2, 0);
        drops(x, 0b10, 5, 4, 0, 1, 1, 2, 2, 0);
        // either of {0, 3} and {1, 2} would do: the least as a number is {1, 2}
        drops(x, 0b0110, 0, 1, 1, 0, 1, 0, 0, 1);
        // one two that is in both rings goes, though a lower one is in one of them
        drops(x, 0b10000, 0, 1, 1, 4, 0, 2, 2, 4, 4, 0);
        drops(x, 0b0101010101, 0, 1, 1, 0, 1, 2, 2, 1, 2, 3, 3, 2, 3, 4, 4, 3, 4, 5, 5, 4);
        drops(x, 0b1000000000, 0, 1, 0, 1, 1, 2, 1, 2, 2, 3, 2, 3, 3, 4, 3, 4, 0, 4, 4, 0);
    }

    private static void rowRefusals() {
        WinnersLeave none = new WinnersLeave();
        Due.row(none, 1, 1, 0, 1, 0, 1);
        DUE.is("orders without a harbour", none.orders(1, 1, 0, 2, 0), STATE);
        DUE.is("drops without a harbour", none.drops(1, 1, 0, 2), STATE);
        DUE.is("faults ahead of it", none.orders(0, 1, 0, 0, 0), -11);
        DUE.is("faults ahead of it, drops", none.drops(0, 1, 0, 0), -11);
        // sheet, lane, i, n, answer, fault
        int[][] rows = {
            {-1, 1, 0, 0, UNKNOWN, 0}, {4, 3, 0, 0, UNKNOWN, 0}, {1, -1, 0, 0, OUTSIDE, 0}, {0, 3, 0, 0, OUTSIDE, 0},
            {1, 1, 0, -1, OUTSIDE, 0}, {0, 1, 0, 11, OUTSIDE, 0}, {1, 2, 9, 2, -12, 2}, {0, 1, 9, 2, -11, 1},
            {1, 1, 1, 2, -13, 3}, {1, 1, -1, 1, -13, 3}, {1, 1, -1, 0, -13, 3}, {1, 1, 5, 0, -13, 3},
            {1, 1, Integer.MAX_VALUE, 2, -13, 3}, {1, 1, 1, 1, UNKNOWN, 0},
        };
        WinnersLeave x = Due.town("v;p10;p20;p30");
        Due.row(x, 1, 1, 0, 1, 1, 2);
        for (int[] r : rows) {
            String what = java.util.Arrays.toString(r);
            DUE.is("orders " + what, x.orders(r[0], r[1], r[2], r[3], 0), r[4]);
            DUE.is("fault of orders " + what, x.fault(), r[5]);
            DUE.is("drops " + what, x.drops(r[0], r[1], r[2], r[3]), r[4]);
            DUE.is("fault of drops " + what, x.fault(), r[5]);
        }
        DUE.is("k -2", x.orders(1, 1, 0, 2, -2), OUTSIDE);
        DUE.is("k 6", x.orders(0, 1, 0, 2, 6), OUTSIDE);
        for (int[] two : new int[][] {{-1, 0}, {0, -1}, {3, 0}, {0, 3}, {2, 2}}) {
            Due.row(x, 1, 1, 0, 1, two[0], two[1]);
            DUE.is("orders by " + two[0] + " " + two[1], x.orders(1, 1, 0, 2, -1), UNKNOWN);
            DUE.is("drops by " + two[0] + " " + two[1], x.drops(1, 1, 0, 2), UNKNOWN);
            DUE.is("orders ahead of it", x.orders(1, 1, 0, 1, -1), 3);
        }
        Due.row(x, 2, 0, new int[40]);
        DUE.is("ten of none", x.orders(2, 0, 0, 10, -1), UNKNOWN);
    }
}

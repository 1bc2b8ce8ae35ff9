import java.util.Arrays;

/**
 * A harbour town in which whoever wins a game must leave.
 * ../shared/DOC.md tells every answer; words in capitals there are names here.
 * All rows are made with the object and used again, since all calls share one room.
 */
public final class WinnersLeave {
    public static final int UNKNOWN = -1, OUTSIDE = -2, STATE = -3, FULL = -4, NONE = -9;
    public static final long LOST = Long.MIN_VALUE;

    private static final int FINE = 0;
    private static final int NULL = 1, CAST = 2, INDEX = 3, SIZE = 4;
    private static final int PLAYER = 0, LEFTY = 1, CHAMPION = 2;
    private static final int MOST_PEOPLE = 6, MOST_CELLS = 60, MOST_READINGS = 8;
    private static final int MOST_ACTS = 20, MOST_TWOS = 10;
    private static final int KIND = 0, STRENGTH = 1, FEINT = 2;
    private static final int SHEETS = 4, LANES = 3, KINDS = 3, DIGITS = 10;

    private final Town town = new Town();
    private final Sheet[] sheets = new Sheet[SHEETS];
    private final Notebook notebook = new Notebook();
    private final Season told = new Season();
    private final Pairing pairing = new Pairing();
    private final Ranking ranking = new Ranking();
    private int gamesPlayed;
    private int marks;
    private int lastFault;

    public WinnersLeave() {
        for (int k = 0; k < SHEETS; k++) {
            sheets[k] = new Sheet();
        }
    }

    // ---- 1 the harbour

    public int harbour(int sheet, int lane, int i, int n) {
        lastFault = FINE;
        if (!isSheet(sheet)) {
            return UNKNOWN;
        }
        if (!isLane(lane)) {
            return OUTSIDE;
        }
        Sheet text = sheets[sheet];
        int found = text.faultOfRow(lane, i, n);
        if (found != FINE) {
            return faulted(found);
        }
        int wrong = Text.firstFault(text, i, n);
        if (wrong != NONE) {
            return -100 - wrong;
        }
        Text.settle(text, i, n, town);
        gamesPlayed = 0;
        notebook.forget(notebook.count);
        return town.count;
    }

    public int ofPerson(int p, int what) {
        if (!town.has(p)) {
            return UNKNOWN;
        }
        Person one = town.people[p];
        switch (what) {
            case KIND:
            case STRENGTH:
            case FEINT: return one.trait(what);
            case 3: return one.best();
            case 4: return one.worst();
            case 5: return one.gone ? 1 : 0;
            default: return OUTSIDE;
        }
    }

    public int train(int p, int v) {
        return changed(p, STRENGTH, v);
    }

    public int learn(int p, int v) {
        return changed(p, FEINT, v);
    }

    // ---- 2 games

    public int game(int a, int b, int x, int y) {
        if (!town.hasTwo(a, b)) {
            return UNKNOWN;
        }
        if (!town.people[a].canPlay(x) || !town.people[b].canPlay(y)) {
            return OUTSIDE;
        }
        if (!town.bothHere(a, b)) {
            return STATE;
        }
        gamesPlayed++;
        return town.winnerLeaves(a, b, x, y);
    }

    public int shy(int a, int b) {
        if (!town.hasTwo(a, b)) {
            return UNKNOWN;
        }
        return game(a, b, town.people[a].worst(), town.people[b].worst());
    }

    public int fetch(int p) {
        if (!town.has(p)) {
            return UNKNOWN;
        }
        if (!town.people[p].gone) {
            return STATE;
        }
        town.people[p].gone = false;
        return Integer.bitCount(town.goneSet());
    }

    public int season(int sheet, int lane, int i, int n, int what) {
        boolean asked = what >= 0 && what <= 4 || what >= 10 && what <= 15;
        int refusal = refusalOfRow(sheet, lane, i, n, asked && n <= MOST_ACTS);
        if (refusal != FINE) {
            return refusal;
        }
        Sheet row = sheets[sheet];
        refusal = refusalOfActs(row, i, n);
        if (refusal != FINE) {
            return refusal;
        }
        told.run(town, row, i, n);
        return told.answer(what);
    }

    // ---- 3 who plays whom

    public int safe(int a, int b) {
        if (!town.hasTwo(a, b)) {
            return UNKNOWN;
        }
        return town.people[a].worst() <= town.people[b].worst() ? 1 : 0;
    }

    public int sure(int p) {
        if (!town.has(p)) {
            return UNKNOWN;
        }
        int worst = town.people[p].worst();
        int set = 0;
        for (int q = 0; q < town.count; q++) {
            Person other = town.people[q];
            if (q != p && !other.gone && worst > other.best()) {
                set |= 1 << q;
            }
        }
        return set;
    }

    public int common(int a, int b) {
        if (!town.hasTwo(a, b)) {
            return UNKNOWN;
        }
        Person one = town.people[a];
        Person other = town.people[b];
        int top = Math.min(one.best(), other.best());
        int bottom = Math.max(one.worst(), other.worst());
        return Math.max(0, top - bottom + 1);
    }

    public int pairs(int k) {
        if (k < -1 || k >= MOST_PEOPLE) {
            return OUTSIDE;
        }
        if (town.count == 0) {
            return STATE;
        }
        pairing.find(town);
        return k < 0 ? pairing.fewest : pairing.partnerOf(k);
    }

    public int orders(int sheet, int lane, int i, int n, int k) {
        boolean asked = k >= -1 && k < MOST_PEOPLE;
        int refusal = refusalOfTwos(sheet, lane, i, n, asked);
        if (refusal != FINE) {
            return refusal;
        }
        ranking.take(town.count, sheets[sheet], i, n, 0);
        return k < 0 ? ranking.howMany() : ranking.placeOfFirst(k);
    }

    public int drops(int sheet, int lane, int i, int n) {
        int refusal = refusalOfTwos(sheet, lane, i, n, true);
        return refusal != FINE ? refusal : ranking.fewestLeftOut(town.count, sheets[sheet], i, n);
    }

    // ---- 4 how games went

    public int reading(int a, int b, int how, int result) {
        if (!town.hasTwo(a, b)) {
            return UNKNOWN;
        }
        if (how < 0 || how > 1 || result < 0 || result > 2) {
            return OUTSIDE;
        }
        return notebook.note(a, b, how, result);
    }

    public int back(int n) {
        if (n < 0 || n > notebook.count) {
            return OUTSIDE;
        }
        notebook.forget(n);
        return notebook.count;
    }

    public int strengths(int p) {
        return agreeing(p, STRENGTH, DIGITS);
    }

    public int feints(int p) {
        return agreeing(p, FEINT, DIGITS);
    }

    public int kinds(int p) {
        return agreeing(p, KIND, KINDS);
    }

    public long odds(int a, int b, int which) {
        if (!town.hasTwo(a, b) || which < 0 || which > 1) {
            return LOST;
        }
        Person one = town.people[a];
        Person other = town.people[b];
        int won = waysToWin(one, other);
        int all = (one.best() - one.worst() + 1) * (other.best() - other.worst() + 1);
        int part = which == 0 ? won : all;
        for (int d = all; d > 1; d--) {
            if (won % d == 0 && all % d == 0) {
                return part / d;
            }
        }
        return part;
    }

    // ---- 5 sheets, parts

    public int sheet(int k, int lane, int n) {
        lastFault = FINE;
        if (!isSheet(k)) {
            return UNKNOWN;
        }
        if (!isLane(lane) || n > MOST_CELLS) {
            return OUTSIDE;
        }
        if (n < 0) {
            return faulted(SIZE);
        }
        sheets[k].renew(lane, n);
        return 1;
    }

    public int lose(int k) {
        if (!isSheet(k)) {
            return UNKNOWN;
        }
        int had = sheets[k].held ? 1 : 0;
        sheets[k].held = false;
        return had;
    }

    public int put(int k, int i, int v) {
        lastFault = FINE;
        if (!isSheet(k)) {
            return UNKNOWN;
        }
        int found = sheets[k].faultOfRow(sheets[k].lane, i, 1);
        if (found != FINE) {
            return faulted(found);
        }
        sheets[k].write(i, v);
        return 1;
    }

    public long cell(int k, int i, int lane) {
        lastFault = FINE;
        if (!isSheet(k) || !isLane(lane)) {
            return LOST;
        }
        lastFault = sheets[k].faultOfRow(lane, i, 1);
        return lastFault != FINE ? LOST : sheets[k].read(i);
    }

    public int copy(int k, int i, int other, int j, int n) {
        lastFault = FINE;
        if (!isSheet(k) || !isSheet(other)) {
            return UNKNOWN;
        }
        Sheet from = sheets[k];
        Sheet to = sheets[other];
        if (!from.held || !to.held) {
            return faulted(NULL);
        }
        if (from.lane != to.lane) {
            return faulted(CAST);
        }
        if (!from.reaches(i, n) || !to.reaches(j, n)) {
            return faulted(INDEX);
        }
        System.arraycopy(from.cells, i, to.cells, j, n);
        return n;
    }

    public int tell(int p) {
        if (!town.has(p)) {
            return UNKNOWN;
        }
        Person one = town.people[p];
        switch (one.kind) {
            case CHAMPION: return tellChampion(one);
            case LEFTY: return tellLefty(one);
            default: return tellPlayer(one);
        }
    }

    public int wave(int p) {
        if (!town.has(p)) {
            return UNKNOWN;
        }
        if (town.people[p].kind == CHAMPION) {
            mark(5);
            return 30;
        }
        mark(4);
        return town.people[p].feint;
    }

    public int as(int p, int kind) {
        lastFault = FINE;
        if (!town.has(p)) {
            return UNKNOWN;
        }
        if (kind < 0 || kind >= KINDS) {
            return OUTSIDE;
        }
        // each kind is also every kind numbered below it
        return town.people[p].kind < kind ? faulted(CAST) : 1;
    }

    public int trace() {
        return marks;
    }

    public int fault() {
        return lastFault;
    }

    public int many(int what) {
        switch (what) {
            case 0: return town.count;
            case 1: return Integer.bitCount(town.goneSet());
            case 2: return gamesPlayed;
            case 3: return notebook.count;
            default: return OUTSIDE;
        }
    }

    // ---- what several calls share

    private static boolean isSheet(int k) {
        return k >= 0 && k < SHEETS;
    }

    private static boolean isLane(int lane) {
        return lane >= 0 && lane < LANES;
    }

    private static boolean isDigit(int v) {
        return v >= 0 && v < DIGITS;
    }

    private int faulted(int which) {
        lastFault = which;
        return -10 - which;
    }

    /** The refusal or fault of a call that takes n pairs of cells from i on; FINE, if there is none. */
    private int refusalOfRow(int k, int lane, int i, int n, boolean numbersFit) {
        lastFault = FINE;
        if (!isSheet(k)) {
            return UNKNOWN;
        }
        if (!isLane(lane) || n < 0 || !numbersFit) {
            return OUTSIDE;
        }
        int found = sheets[k].faultOfRow(lane, i, 2 * n);
        if (found != FINE) {
            return faulted(found);
        }
        return town.count == 0 ? STATE : FINE;
    }

    private int refusalOfActs(Sheet row, int i, int n) {
        for (int j = 0; j < n; j++) {
            if (!Season.isAct(row.read(i + 2 * j + 1))) {
                return OUTSIDE;
            }
            if (!town.has(row.read(i + 2 * j))) {
                return UNKNOWN;
            }
        }
        return FINE;
    }

    private int refusalOfTwos(int k, int lane, int i, int n, boolean numbersFit) {
        int refusal = refusalOfRow(k, lane, i, n, numbersFit && n <= MOST_TWOS);
        if (refusal != FINE) {
            return refusal;
        }
        Sheet row = sheets[k];
        for (int j = 0; j < n; j++) {
            if (!town.hasTwo(row.read(i + 2 * j), row.read(i + 2 * j + 1))) {
                return UNKNOWN;
            }
        }
        return FINE;
    }

    /** Gives a person another strength or feint: what it was. */
    private int changed(int p, int trait, int v) {
        if (!town.has(p)) {
            return UNKNOWN;
        }
        if (!isDigit(v)) {
            return OUTSIDE;
        }
        int was = town.people[p].trait(trait);
        town.people[p].setTrait(trait, v);
        return was;
    }

    /** The set of what a trait could be alone; it is put back, so that nothing is changed. */
    private int agreeing(int p, int trait, int values) {
        if (!town.has(p)) {
            return UNKNOWN;
        }
        Person one = town.people[p];
        int own = one.trait(trait);
        int set = 0;
        for (int v = 0; v < values; v++) {
            one.setTrait(trait, v);
            if (notebook.agrees(town)) {
                set |= 1 << v;
            }
        }
        one.setTrait(trait, own);
        return set;
    }

    private static int waysToWin(Person one, Person other) {
        int bottom = other.worst();
        int top = other.best();
        int ways = 0;
        for (int x = one.worst(); x <= one.best(); x++) {
            ways += Math.max(0, Math.min(x - 1, top) - bottom + 1);
        }
        return ways;
    }

    private void mark(int body) {
        marks = 31 * marks + body;
    }

    private int tellPlayer(Person one) {
        mark(1);
        return one.strength;
    }

    private int tellLefty(Person one) {
        mark(2);
        return tellPlayer(one) + 100;
    }

    private int tellChampion(Person one) {
        mark(3);
        int asLefty = tellLefty(one);
        return asLefty + tellPlayer(one);
    }

    private static final class Person {
        private int kind;
        private int strength;
        private int feint;
        private boolean gone;

        private int trait(int which) {
            switch (which) {
                case KIND: return kind;
                case STRENGTH: return strength;
                default: return feint;
            }
        }

        private void setTrait(int which, int v) {
            switch (which) {
                case KIND: kind = v; break;
                case STRENGTH: strength = v; break;
                default: feint = v; break;
            }
        }

        private int best() {
            switch (kind) {
                case CHAMPION: return 2 * strength;
                case LEFTY: return strength + 1;
                default: return strength;
            }
        }

        private int worst() {
            return Math.max(0, best() - feint);
        }

        private boolean canPlay(int x) {
            return x >= worst() && x <= best();
        }

        private void become(int newKind, int newStrength, int newFeint, boolean isGone) {
            kind = newKind;
            strength = newStrength;
            feint = newFeint;
            gone = isGone;
        }
    }

    /** People and who of them is gone; no people, if there is no harbour. */
    private static final class Town {
        private final Person[] people = new Person[MOST_PEOPLE];
        private int count;

        private Town() {
            for (int p = 0; p < MOST_PEOPLE; p++) {
                people[p] = new Person();
            }
        }

        private boolean has(int p) {
            return p >= 0 && p < count;
        }

        private boolean hasTwo(int a, int b) {
            return has(a) && has(b) && a != b;
        }

        private boolean bothHere(int a, int b) {
            return !people[a].gone && !people[b].gone;
        }

        private int goneSet() {
            int set = 0;
            for (int p = 0; p < count; p++) {
                set |= people[p].gone ? 1 << p : 0;
            }
            return set;
        }

        private int winnerLeaves(int a, int b, int x, int y) {
            if (x == y) {
                return NONE;
            }
            int winner = x > y ? a : b;
            people[winner].gone = true;
            return winner;
        }

        private void becomeLike(Town other) {
            count = other.count;
            for (int p = 0; p < count; p++) {
                Person one = other.people[p];
                people[p].become(one.kind, one.strength, one.feint, one.gone);
            }
        }
    }

    private static final class Sheet {
        private final int[] cells = new int[MOST_CELLS];
        private boolean held;
        private int lane;
        private int length;

        private void renew(int newLane, int n) {
            Arrays.fill(cells, 0);
            held = true;
            lane = newLane;
            length = n;
        }

        private boolean reaches(int i, int n) {
            return n >= 0 && i >= 0 && i <= length - n;
        }

        private int faultOfRow(int asLane, int i, int n) {
            if (!held) {
                return NULL;
            }
            if (lane != asLane) {
                return CAST;
            }
            if (n < 0) {
                return SIZE;
            }
            return reaches(i, n) ? FINE : INDEX;
        }

        private int read(int i) {
            return reaches(i, 1) ? cells[i] : 0;
        }

        private void write(int i, int v) {
            if (!reaches(i, 1)) {
                return;
            }
            switch (lane) {
                case 0: cells[i] = (byte) v; break;
                case 1: cells[i] = (short) v; break;
                default: cells[i] = v; break;
            }
        }
    }

    /** How a harbour is told: v, then four codes for each of the people. */
    private static final class Text {
        private static final int CODES_EACH = 4, FEWEST_PEOPLE = 2;

        private static int firstFault(Sheet text, int i, int n) {
            for (int place = 0; place < n; place++) {
                if (!goesOn(place, text.read(i + place))) {
                    return place;
                }
            }
            boolean whole = n >= 1 + CODES_EACH * FEWEST_PEOPLE && (n - 1) % CODES_EACH == 0;
            return whole ? NONE : n;
        }

        private static boolean goesOn(int place, int code) {
            if (place == 0) {
                return code == 'v';
            }
            if (place > CODES_EACH * MOST_PEOPLE) {
                return false;
            }
            switch ((place - 1) % CODES_EACH) {
                case 0: return code == ';';
                case 1: return kindOf(code) != NONE;
                default: return isDigit(code - '0');
            }
        }

        private static int kindOf(int code) {
            switch (code) {
                case 'p': return PLAYER;
                case 'l': return LEFTY;
                case 'c': return CHAMPION;
                default: return NONE;
            }
        }

        private static void settle(Sheet text, int i, int n, Town town) {
            town.count = Math.min((n - 1) / CODES_EACH, MOST_PEOPLE);
            for (int p = 0; p < town.count; p++) {
                int at = i + 1 + CODES_EACH * p;
                int kind = kindOf(text.read(at + 1));
                int strength = text.read(at + 2) - '0';
                int feint = text.read(at + 3) - '0';
                town.people[p].become(kind, strength, feint, false);
            }
        }
    }

    /** A season played through on a town of its own, so that nothing is changed. */
    private static final class Season {
        private static final int FETCHED = 10, LEAST_FEINT = 20, MOST_FEINT = 29;

        private final Town town = new Town();
        private final int[] gamesOf = new int[MOST_PEOPLE];
        private int draws;
        private int wentLast;
        private int firstWrong;

        private static boolean isAct(int act) {
            return act >= 0 && act < MOST_PEOPLE || act == FETCHED || act >= LEAST_FEINT && act <= MOST_FEINT;
        }

        private void run(Town from, Sheet row, int i, int n) {
            town.becomeLike(from);
            Arrays.fill(gamesOf, 0);
            draws = 0;
            wentLast = NONE;
            firstWrong = NONE;
            for (int j = 0; j < n && firstWrong == NONE; j++) {
                if (!goesOn(row.read(i + 2 * j), row.read(i + 2 * j + 1))) {
                    firstWrong = j;
                }
            }
        }

        private boolean goesOn(int p, int act) {
            if (!town.has(p)) {
                return false;
            }
            if (act >= LEAST_FEINT) {
                town.people[p].feint = act - LEAST_FEINT;
                return true;
            }
            return act == FETCHED ? comesBack(town.people[p]) : playShy(p, act);
        }

        private static boolean comesBack(Person one) {
            boolean was = one.gone;
            one.gone = false;
            return was;
        }

        private boolean playShy(int p, int q) {
            if (!town.hasTwo(p, q) || !town.bothHere(p, q)) {
                return false;
            }
            gamesOf[p]++;
            gamesOf[q]++;
            int winner = town.winnerLeaves(p, q, town.people[p].worst(), town.people[q].worst());
            if (winner == NONE) {
                draws++;
            } else {
                wentLast = winner;
            }
            return true;
        }

        private int answer(int what) {
            if (what == 1) {
                return firstWrong;
            }
            if (firstWrong != NONE) {
                return -100 - firstWrong;
            }
            switch (what) {
                case 0: return town.count - Integer.bitCount(town.goneSet());
                case 2: return town.goneSet();
                case 3: return draws;
                case 4: return wentLast;
                default: return town.has(what - 10) ? gamesOf[what - 10] : NONE;
            }
        }
    }

    /** Looks for the twos by whose shy games the fewest are gone. */
    private static final class Pairing {
        private static final int NOBODY = 9, OPEN = -1;

        private final int[] tried = new int[MOST_PEOPLE];
        private final int[] found = new int[MOST_PEOPLE];
        private int fewest;

        private void find(Town town) {
            fewest = MOST_PEOPLE;
            Arrays.fill(tried, NOBODY);
            int here = 0;
            for (int p = 0; p < town.count; p++) {
                if (!town.people[p].gone) {
                    tried[p] = OPEN;
                    here++;
                }
            }
            pairFrom(town, 0, here % 2, 0);
        }

        /** Tries rows in their order, so that only one by which fewer are gone takes the place of an earlier one. */
        private void pairFrom(Town town, int p, int mayRest, int gone) {
            if (p >= town.count) {
                if (gone < fewest) {
                    fewest = gone;
                    System.arraycopy(tried, 0, found, 0, MOST_PEOPLE);
                }
                return;
            }
            if (tried[p] != OPEN) {
                pairFrom(town, p + 1, mayRest, gone);
                return;
            }
            for (int q = p + 1; q < town.count; q++) {
                if (tried[q] == OPEN) {
                    tried[p] = q;
                    tried[q] = p;
                    boolean draw = town.people[p].worst() == town.people[q].worst();
                    pairFrom(town, p + 1, mayRest, draw ? gone : gone + 1);
                    tried[q] = OPEN;
                }
            }
            if (mayRest > 0) {
                tried[p] = NOBODY;
                pairFrom(town, p + 1, mayRest - 1, gone);
            }
            tried[p] = OPEN;
        }

        private int partnerOf(int p) {
            return p < 0 || p >= MOST_PEOPLE || found[p] == NOBODY ? NONE : found[p];
        }
    }

    /** Orders of all people by who beat whom. */
    private static final class Ranking {
        private final int[] beatenBy = new int[MOST_PEOPLE];
        private final int[] ways = new int[1 << MOST_PEOPLE];
        private final int[] first = new int[MOST_PEOPLE];
        private int count;

        /** Takes n twos that are people of the town, but for those of the set leftOut. */
        private void take(int people, Sheet row, int i, int n, int leftOut) {
            count = Math.min(people, MOST_PEOPLE);
            Arrays.fill(beatenBy, 0);
            for (int j = 0; j < n; j++) {
                int winner = row.read(i + 2 * j);
                int loser = row.read(i + 2 * j + 1);
                if ((leftOut >> j & 1) == 0 && loser >= 0 && loser < count) {
                    beatenBy[loser] |= 1 << winner;
                }
            }
        }

        private boolean mayFollow(int p, int ahead) {
            return (ahead >> p & 1) == 0 && (beatenBy[p] & ~ahead) == 0;
        }

        /** Counts by who stands ahead, a set that only grows: so each set's ways are known when it is come to. */
        private int howMany() {
            int everyone = (1 << count) - 1;
            Arrays.fill(ways, 0);
            ways[0] = 1;
            for (int ahead = 0; ahead < everyone; ahead++) {
                for (int p = 0; p < count; p++) {
                    if (mayFollow(p, ahead)) {
                        ways[ahead | 1 << p] += ways[ahead];
                    }
                }
            }
            return ways[everyone];
        }

        private boolean lineUp() {
            int ahead = 0;
            for (int place = 0; place < count; place++) {
                int next = 0;
                while (next < count && !mayFollow(next, ahead)) {
                    next++;
                }
                if (next == count) {
                    return false;
                }
                first[place] = next;
                ahead |= 1 << next;
            }
            return true;
        }

        private int placeOfFirst(int k) {
            return k >= 0 && k < count && lineUp() ? first[k] : NONE;
        }

        private int fewestLeftOut(int people, Sheet row, int i, int n) {
            for (int size = 0; size <= n; size++) {
                for (int leftOut = 0; leftOut < 1 << n; leftOut++) {
                    if (Integer.bitCount(leftOut) == size) {
                        take(people, row, i, n, leftOut);
                        if (lineUp()) {
                            return leftOut;
                        }
                    }
                }
            }
            return 0;
        }
    }

    /** Readings: how games went, by which strengths, feints and kinds are told. */
    private static final class Notebook {
        private final int[] ones = new int[MOST_READINGS];
        private final int[] others = new int[MOST_READINGS];
        private final int[] hows = new int[MOST_READINGS];
        private final int[] results = new int[MOST_READINGS];
        private int count;

        private int note(int a, int b, int how, int result) {
            if (count >= MOST_READINGS) {
                return FULL;
            }
            ones[count] = a;
            others[count] = b;
            hows[count] = how;
            results[count] = result;
            return count++;
        }

        private void forget(int n) {
            count = Math.max(0, count - n);
        }

        private boolean agrees(Town town) {
            for (int r = 0; r < count; r++) {
                if (!town.hasTwo(ones[r], others[r])) {
                    return false;
                }
                if (resultOf(town.people[ones[r]], town.people[others[r]], hows[r]) != results[r]) {
                    return false;
                }
            }
            return true;
        }

        private static int resultOf(Person one, Person other, int how) {
            int x = how == 0 ? one.best() : one.worst();
            int y = how == 0 ? other.best() : other.worst();
            return 1 + Integer.compare(x, y);
        }
    }
}

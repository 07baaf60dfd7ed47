import java.util.Arrays;

/**
 * A road on which a loaf is broken with whoever comes, and told over after.
 * The document ../shared/DOC.md says what each call promises; its words in
 * capitals are used here as plain names.
 *
 * No call makes an object: all rows are made once, in the constructors.
 */
public final class BrokenLoaves {
    public static final int BAD = -1, FULL = -2, NONE = -3, STATE = -4;

    private static final int NOTHING_THERE = -11, OUTSIDE = -12, OTHER_SORT = -13, SIZE_BELOW_0 = -14, PARTED_BY_0 = -15;
    private static final int FAULTS = -100, NO_ROW = -9;

    private static final int MOST_PEOPLE = 6, GATES = 6, DAYS = 16, MOST_REPORTS = 6, MOST_RULES = 8;
    private static final int MOST_LOAF = 999, MOST_SNOW = 9, MOST_MET = 9, MOST_TALE = 9, MOST_NEED = 60;
    private static final int FIRST_LOAF = 12, FIRST_END = 12, FIRST_WEATHER = 4, FIRST_TAKES = 5;
    private static final int BREAK = 0, PASS = 1, SHUT = 2;
    private static final int MOST_BYTES = 200, MOST_PLANNED = 4, ROW_PARTS = 3;
    private static final int STRANGERS = 500;
    private static final int SHEETS = 4, SHELVES = 4, MOST_ITEMS = 40, MOST_TAKEN = 20, MISSING = -1;
    private static final int BYTES = 0, SHORTS = 1, BOOLEANS = 4, ROW_KINDS = 10;
    private static final int HOLDS_PERSON = 0, HOLDS_ROW = 1, HOLDS_NOTHING = 2;

    private final Road road;
    private final Road kept;
    private boolean anythingKept;
    private final RuleText text;
    private final Planner planner;
    /** A course to try days on, so that asking leaves the road as it is. */
    private final Course ahead;
    private final int[] rows;
    private int rowCount;
    private final int[] sheetSort;
    private final int[] sheetLength;
    private final int[][] sheetItems;
    private final int[] shelfHolds;
    /** The number of a person, or the sort of a row. */
    private final int[] shelfThing;
    private final int[] shelfLength;
    private final Deed deed;

    public BrokenLoaves() {
        Person[] kinds = {new Person(), new Tramp(), new Pilgrim(), new Bishop(), new Friend(), new Twin()};
        road = new Road(kinds);
        kept = new Road(kinds);
        text = new RuleText();
        planner = new Planner(road);
        ahead = new Course();
        rows = new int[MOST_PLANNED * ROW_PARTS];
        sheetSort = new int[SHEETS];
        Arrays.fill(sheetSort, MISSING);
        sheetLength = new int[SHEETS];
        sheetItems = new int[SHEETS][MOST_ITEMS];
        shelfHolds = new int[SHELVES];
        Arrays.fill(shelfHolds, HOLDS_NOTHING);
        shelfThing = new int[SHELVES];
        shelfLength = new int[SHELVES];
        deed = new Deed();
    }

    // ---- the road, people

    public int person(int kind, int need, int tale, int gate) {
        if (!within(kind, 1, 5) || !within(need, 0, MOST_NEED)) return BAD;
        if (!within(tale, 0, MOST_TALE) || !within(gate, 0, GATES - 1)) return BAD;
        int k = road.count;
        if (k >= MOST_PEOPLE) return FULL;
        road.kind[k] = kind;
        road.need[k] = need;
        road.tale[k] = tale;
        road.gate[k] = gate;
        road.count = k + 1;
        return k;
    }

    public int personOf(int k, int what) {
        if (!road.has(k)) return BAD;
        Course now = road.now;
        switch (what) {
            case 0: return road.kind[k];
            case 1: return road.need[k];
            case 2: return road.tale[k];
            case 3: return road.gate[k];
            case 4: return now.metOf(k);
            case 5: return now.isFed(k) ? 1 : 0;
            case 6: return road.strangeStill(now, k);
            case 7: return road.thingOf(k).eats(k);
            case 8: return road.willOf(now, k, road.strangeStill(now, k));
            case 9: return road.takesBy(now.snow, k) ? 1 : 0;
            default: return BAD;
        }
    }

    public int change(int k, int what, int v) {
        if (!road.has(k) || !within(what, 1, 5) || !within(v, 0, mostToChange(what))) return BAD;
        int old = personOf(k, what);
        switch (what) {
            case 1: road.need[k] = v; break;
            case 2: road.tale[k] = v; break;
            case 3: road.gate[k] = v; break;
            case 4: road.now.setMet(k, v); break;
            default: road.now.setFed(k, v); break;
        }
        return old;
    }

    private static int mostToChange(int what) {
        switch (what) {
            case 1: return MOST_NEED;
            case 2: return MOST_TALE;
            case 3: return GATES - 1;
            case 4: return MOST_MET;
            default: return 1;
        }
    }

    public int remake(int k, int kind) {
        if (!road.has(k) || !within(kind, 1, 5)) return BAD;
        int old = road.kind[k];
        road.kind[k] = kind;
        return old;
    }

    public int weather(int day, int v) {
        if (!within(day, 0, DAYS - 1) || !within(v, 0, 15)) return BAD;
        int old = road.weather[day];
        road.weather[day] = v;
        return old;
    }

    public int gate(int g, int what, int v) {
        if (!within(g, 0, GATES - 1) || !within(what, 0, 1) || !within(v, 0, 9)) return BAD;
        int[] row = what == 0 ? road.dust : road.takes;
        int old = row[g];
        row[g] = v;
        return old;
    }

    public int gateOf(int g, int what) {
        if (!within(g, 0, GATES - 1) || !within(what, 0, 1)) return BAD;
        return what == 0 ? road.dust[g] : road.takes[g];
    }

    public int house(int what, int v) {
        if (!within(what, 0, 1) || !within(v, 0, what == 0 ? MOST_SNOW : MOST_LOAF)) return BAD;
        int old = what == 0 ? road.now.snow : road.now.loaf;
        if (what == 0) road.now.snow = v;
        else road.now.loaf = v;
        return old;
    }

    public int ends(int v) {
        if (!within(v, 1, DAYS)) return BAD;
        if (v < road.now.day) return STATE;
        int old = road.end;
        road.end = v;
        return old;
    }

    public int anew() {
        int old = road.now.day;
        road.now.startAnew();
        return old;
    }

    public int state(int what) {
        Course now = road.now;
        switch (what) {
            case 0: return now.day;
            case 1: return road.end;
            case 2: return now.score;
            case 3: return road.isOver(now) ? 1 : 0;
            case 4: return now.metSet();
            case 5: return now.fed;
            case 6: return within(now.day, 0, DAYS - 1) ? road.weather[now.day] : 0;
            case 7: return now.snow;
            case 8: return now.loaf;
            default: return BAD;
        }
    }

    // ---- the rules

    public int feed(long eight, int n) {
        if (!within(n, 1, 8)) return BAD;
        if (text.length + n > MOST_BYTES) return FULL;
        for (int i = 0; i < n; i++) text.takeByte((byte) (eight >>> (8 * i)));
        return text.length;
    }

    public int rules() {
        int fault = text.readAll();
        if (fault >= 0) return FAULTS - fault;
        road.takeRules(text.draft, text.ruleCount);
        return road.ruleCount;
    }

    // ---- days

    public int day() {
        if (road.isOver(road.now)) return STATE;
        return road.goBy(road.now, road.restAct(road.now));
    }

    public int on(int n) {
        if (!within(n, 0, DAYS)) return BAD;
        return worthOfRest(n);
    }

    public int when(int k) {
        if (!road.has(k)) return BAD;
        if (road.now.isFed(k)) return NONE;
        for (int left = startAhead(); left > 0; left--) {
            road.goBy(ahead, road.restAct(ahead));
            if (ahead.isFed(k)) return ahead.day - 1;
        }
        return NONE;
    }

    public int taleFor(int k) {
        if (!road.has(k)) return BAD;
        return mostWorthBy(road.tale, k, MOST_TALE);
    }

    public int gateFor(int k) {
        if (!road.has(k)) return BAD;
        return mostWorthBy(road.gate, k, GATES - 1);
    }

    /** The least v, 0 to most, that makes the rest worth most when it stands for person k in the row. */
    private int mostWorthBy(int[] row, int k, int most) {
        int old = row[k];
        int best = 0;
        int bestWorth = -1;
        for (int v = 0; v <= most; v++) {
            row[k] = v;
            int worth = worthOfRest(DAYS);
            if (worth > bestWorth) {
                bestWorth = worth;
                best = v;
            }
        }
        row[k] = old;
        return best;
    }

    /** Sets the course ahead to how it is now, and tells how many days there are yet. */
    private int startAhead() {
        ahead.copyFrom(road.now);
        return road.daysLeft(ahead);
    }

    private int worthOfRest(int n) {
        int worth = 0;
        for (int left = Math.min(n, startAhead()); left > 0; left--) {
            worth += road.goBy(ahead, road.restAct(ahead));
        }
        return worth;
    }

    // ---- bakeries, winters, tables, rounds

    public int bakery(int v) {
        if (!within(v, 0, MOST_LOAF)) return BAD;
        for (int left = startAhead(); left > 0; left--) {
            road.goBy(ahead, road.restAct(ahead));
            if (ahead.loaf >= v) return ahead.day - 1;
        }
        return NONE;
    }

    public int winter(int what) {
        if (!within(what, 0, 1)) return BAD;
        int without = 0;
        for (int left = startAhead(); left > 0; left--) {
            int fed = ahead.fed;
            road.goBy(ahead, road.restAct(ahead));
            if (ahead.fed == fed) without++;
        }
        return what == 0 ? without : ahead.loaf;
    }

    public int tables(int what) {
        if (what == -1) return countTables();
        if (!road.has(what)) return BAD;
        return road.tableOf(what);
    }

    private int countTables() {
        int seen = 0;
        int tables = 0;
        for (int k = 0; k < road.count; k++) {
            int table = road.tableOf(k);
            if ((table & ~seen) != 0) tables++;
            seen |= table;
        }
        return tables;
    }

    public int rounds(int loaf, int what) {
        if (!within(loaf, 0, MOST_LOAF) || !within(what, 0, 1)) return BAD;
        int hungry = road.hungry();
        int fewest = road.partsOver(loaf, hungry);
        if (what == 0) return fewest;
        for (int k = 0; k < road.count; k++) {
            boolean asked = (hungry & 1 << k) != 0;
            if (asked && road.partsBy(loaf, k, hungry) == fewest) return k;
        }
        return NONE;
    }

    // ---- plans

    public int best(int n) {
        if (!within(n, 0, MOST_PLANNED)) return BAD;
        planner.tryPlans(n, 0);
        return planner.mostWorth;
    }

    public int ith(int n, int i) {
        if (!within(n, 0, MOST_PLANNED) || !within(i, 0, MOST_PLANNED - 1)) return BAD;
        planner.tryPlans(n, 0);
        return i < planner.length ? planner.first[i] : NONE;
    }

    public int ways(int n) {
        if (!within(n, 0, MOST_PLANNED)) return BAD;
        planner.tryPlans(n, 0);
        return planner.bestPlans;
    }

    public int feast(int n, int people) {
        if (!within(n, 0, MOST_PLANNED) || !isSetOfPeople(people)) return BAD;
        planner.tryPlans(n, people);
        return planner.fewestTold < 0 ? NONE : planner.fewestTold;
    }

    public int bars(int n, int people) {
        if (!within(n, 0, MOST_PLANNED) || !isSetOfPeople(people)) return BAD;
        planner.tryPlans(n, people);
        return leastOf(people & ~planner.everFed);
    }

    private boolean isSetOfPeople(int set) {
        return within(set, 0, (1 << road.count) - 1);
    }

    private static int leastOf(int set) {
        return set == 0 ? NONE : Integer.numberOfTrailingZeros(set);
    }

    // ---- a game, strangers, lots

    public int game(int n) {
        if (!within(n, 1, MOST_PLANNED)) return BAD;
        return planner.valueOfGame(n);
    }

    public int play(int n) {
        if (!within(n, 1, MOST_PLANNED)) return BAD;
        if (road.isOver(road.now)) return NONE;
        planner.valueOfGame(n);
        return planner.opening;
    }

    public int report(int k, int asked, int least, int most) {
        if (!within(k, 0, DAYS - 1) || !within(asked, 0, 1)) return BAD;
        int limit = asked == 0 ? MOST_LOAF : MOST_SNOW;
        if (!within(least, 0, limit) || !within(most, least, limit)) return BAD;
        if (road.reportCount >= MOST_REPORTS) return FULL;
        int r = road.reportCount;
        road.reportDay[r] = k;
        road.reportAsked[r] = asked;
        road.reportLeast[r] = least;
        road.reportMost[r] = most;
        road.reportCount = r + 1;
        return r;
    }

    public int forget() {
        int old = road.reportCount;
        road.reportCount = 0;
        return old;
    }

    public int tales(int what) {
        if (!within(what, 0, 3)) return BAD;
        int fitting = 0;
        int first = NONE;
        for (int s = 0; s < STRANGERS; s++) {
            if (road.reportsAgainst(s) == 0) {
                if (fitting == 0) first = s;
                fitting++;
            }
        }
        if (what == 0) return fitting;
        if (fitting == 0) return NONE;
        if (what == 1) return Road.kindOfStranger(first);
        return what == 2 ? Road.taleOfStranger(first) : Road.snowOfStranger(first);
    }

    public int liar() {
        int alone = 0;
        for (int s = 0; s < STRANGERS; s++) {
            int against = road.reportsAgainst(s);
            if (against == 0) return NONE;
            if (Integer.bitCount(against) == 1) alone |= against;
        }
        return leastOf(alone);
    }

    public int seed(int v) {
        int old = road.z;
        road.z = v;
        return old;
    }

    public int lot() {
        if (road.isOver(road.now)) return STATE;
        road.z = nextChance(road.z);
        return road.goBy(road.now, actByChance(road.z));
    }

    public int times(int n, int v) {
        if (!within(n, 1, 40) || !within(v, 0, 999)) return BAD;
        int z = road.z;
        int enough = 0;
        for (int t = 0; t < n; t++) {
            int worth = 0;
            for (int left = startAhead(); left > 0; left--) {
                z = nextChance(z);
                worth += road.goBy(ahead, actByChance(z));
            }
            if (worth >= v) enough++;
        }
        return enough;
    }

    private static int nextChance(int z) {
        return z * 1103515245 + 12345;
    }

    private int actByChance(int z) {
        return (z >>> 16) % (road.count + 1);
    }

    // ---- rows

    public int prove(int n) {
        if (!within(n, 0, MOST_PLANNED)) return BAD;
        planner.tryPlans(n, 0);
        startAhead();
        rowCount = planner.length;
        for (int r = 0; r < rowCount; r++) {
            rows[placeInRow(r, 0)] = planner.first[r];
            rows[placeInRow(r, 1)] = road.goBy(ahead, planner.first[r]);
            rows[placeInRow(r, 2)] = ahead.fed;
        }
        return rowCount;
    }

    public int row(int k, int what) {
        if (!isInRows(k, what)) return NO_ROW;
        return rows[placeInRow(k, what)];
    }

    public int alterRow(int k, int what, int v) {
        if (!isInRows(k, what)) return NO_ROW;
        int old = rows[placeInRow(k, what)];
        rows[placeInRow(k, what)] = v;
        return old;
    }

    public int judge() {
        int left = startAhead();
        for (int r = 0; r < rowCount; r++) {
            int act = rows[placeInRow(r, 0)];
            if (r >= left || !road.isAct(act)) return r + 1;
            int worth = road.goBy(ahead, act);
            if (worth != rows[placeInRow(r, 1)] || ahead.fed != rows[placeInRow(r, 2)]) return r + 1;
        }
        return 0;
    }

    private boolean isInRows(int k, int what) {
        return within(k, 0, rowCount - 1) && within(what, 0, ROW_PARTS - 1);
    }

    private static int placeInRow(int k, int what) {
        return ROW_PARTS * k + what;
    }

    // ---- the host

    public int sheet(int sheet, int sort, int n) {
        if (!isSheet(sheet) || !within(sort, MISSING, BOOLEANS)) return BAD;
        if (sort != MISSING) {
            if (n > MOST_ITEMS) return BAD;
            if (n < 0) return SIZE_BELOW_0;
            Arrays.fill(sheetItems[sheet], 0);
            sheetLength[sheet] = n;
        }
        sheetSort[sheet] = sort;
        return 1;
    }

    public int write(int sheet, int i, int v) {
        if (!isSheet(sheet)) return BAD;
        if (sheetSort[sheet] == MISSING) return NOTHING_THERE;
        if (!hasItem(sheet, i)) return OUTSIDE;
        sheetItems[sheet][i] = narrowed(sheetSort[sheet], v);
        return 1;
    }

    /** Ints serve for longs too: what is written is an int, and what is read are the lowest 32 bits. */
    private static int narrowed(int sort, int v) {
        switch (sort) {
            case BYTES: return (byte) v;
            case SHORTS: return (short) v;
            case BOOLEANS: return v != 0 ? 1 : 0;
            default: return v;
        }
    }

    public int item(int sheet, int sort, int i) {
        if (!isSheet(sheet) || !within(sort, BYTES, BOOLEANS)) return BAD;
        int refusal = refusalAs(sheet, sort);
        if (refusal < 0) return refusal;
        if (!hasItem(sheet, i)) return OUTSIDE;
        return sheetItems[sheet][i];
    }

    public int goAll(int sheet, int i, int n) {
        if (!isSheet(sheet) || !within(n, 0, MOST_TAKEN)) return BAD;
        int refusal = refusalAs(sheet, BYTES);
        if (refusal < 0) return refusal;
        int worth = 0;
        for (int j = 0; j < n; j++) {
            if (!hasItem(sheet, i + j)) return OUTSIDE;
            int act = sheetItems[sheet][i + j];
            if (road.isAct(act) && !road.isOver(road.now)) worth += road.goBy(road.now, act);
        }
        return worth;
    }

    public int wouldBe(int sheet, int i, int n) {
        if (!isSheet(sheet) || !within(n, 0, MOST_TAKEN)) return BAD;
        int refusal = refusalAs(sheet, BYTES);
        if (refusal < 0) return refusal;
        int left = startAhead();
        int worth = 0;
        for (int j = 0; j < n; j++) {
            if (!hasItem(sheet, i + j)) return OUTSIDE;
            int act = sheetItems[sheet][i + j];
            if (j >= left || !road.isAct(act)) return STATE;
            worth += road.goBy(ahead, act);
        }
        return worth;
    }

    private static boolean isSheet(int sheet) {
        return within(sheet, 0, SHEETS - 1);
    }

    private boolean hasItem(int sheet, int i) {
        return within(i, 0, sheetLength[sheet] - 1);
    }

    /** Why a sheet can't be taken for a sort: a missing one is of no other sort. 0 if it can. */
    private int refusalAs(int sheet, int sort) {
        if (sheetSort[sheet] == MISSING) return NOTHING_THERE;
        return sheetSort[sheet] == sort ? 0 : OTHER_SORT;
    }

    public int shelf(int shelf, int what, int n) {
        if (!isShelf(shelf)) return BAD;
        switch (what) {
            case HOLDS_PERSON: return putPerson(shelf, n);
            case HOLDS_ROW: return putRow(shelf, n);
            case HOLDS_NOTHING:
                shelfHolds[shelf] = HOLDS_NOTHING;
                return 1;
            default: return BAD;
        }
    }

    private int putPerson(int shelf, int n) {
        if (!road.has(n)) return BAD;
        shelfHolds[shelf] = HOLDS_PERSON;
        shelfThing[shelf] = n;
        return 1;
    }

    /** A row keeps its sort and length for good, so these two stand for it, also when its sheet becomes another. */
    private int putRow(int shelf, int n) {
        if (!isSheet(n)) return BAD;
        shelfHolds[shelf] = sheetSort[n] == MISSING ? HOLDS_NOTHING : HOLDS_ROW;
        shelfThing[shelf] = sheetSort[n];
        shelfLength[shelf] = sheetLength[n];
        return 1;
    }

    public int taken(int shelf, int as) {
        boolean asPerson = within(as, 0, 5);
        if (!isShelf(shelf) || !asPerson && !within(as, ROW_KINDS, ROW_KINDS + BOOLEANS)) return BAD;
        if (shelfHolds[shelf] == HOLDS_ROW) {
            return as == ROW_KINDS + shelfThing[shelf] ? shelfLength[shelf] : OTHER_SORT;
        }
        int k = personOn(shelf);
        if (k < 0) return NOTHING_THERE;
        return asPerson && Road.isOrIsUnder(road.kind[k], as) ? k : OTHER_SORT;
    }

    public int act(int shelf, int act, int x) {
        deed.clear();
        int k = isShelf(shelf) ? personOn(shelf) : NONE;
        if (k < 0) return 0;
        deed.by(k, road.gate[k]);
        Person thing = road.thingOf(k);
        int answer = 0;
        switch (act) {
            case 0: answer = thing.hails(x, deed); break;
            case 1: answer = thing.shares(x, deed); break;
            case 2: answer = thing.weighs(x, deed); break;
            case 3: answer = thing.blesses(x, deed); break;
            default: break;
        }
        return deed.partedBy0 ? PARTED_BY_0 : answer;
    }

    private static boolean isShelf(int shelf) {
        return within(shelf, 0, SHELVES - 1);
    }

    /** The number of the person on a shelf, below 0 if there is none such. */
    private int personOn(int shelf) {
        boolean held = shelfHolds[shelf] == HOLDS_PERSON && road.has(shelfThing[shelf]);
        return held ? shelfThing[shelf] : NONE;
    }

    public int trace(int i) {
        return within(i, 0, deed.count - 1) ? deed.bodies[i] : NONE;
    }

    public int many(int what) {
        switch (what) {
            case 0: return road.count;
            case 1: return road.ruleCount;
            case 2: return Integer.bitCount(road.now.fed);
            case 3: return road.reportCount;
            case 4: return rowCount;
            case 5: return text.length;
            case 6: return deed.count;
            default: return BAD;
        }
    }

    // ---- kept

    public int keep() {
        kept.copyFrom(road);
        anythingKept = true;
        return 1;
    }

    public int again() {
        if (!anythingKept) return NONE;
        road.copyFrom(kept);
        return road.count;
    }

    private static boolean within(int v, int least, int most) {
        return v >= least && v <= most;
    }

    // ---- kinds: how strange, what it eats, and acts; stateless, so one of each serves all people

    private static class Person {
        int strange(int tale, int day) {
            return tale;
        }

        int eats(int number) {
            return 3;
        }

        int hails(int x, Deed deed) {
            deed.began(10);
            return x ^ deed.number;
        }

        int shares(int x, Deed deed) {
            deed.began(11);
            return hails(x, deed) * 3;
        }

        int weighs(int x, Deed deed) {
            deed.began(12);
            int parts = deed.gate + 1 - deed.number;
            if (parts == 0) {
                deed.partedBy0 = true;
                return 0;
            }
            return x % parts;
        }

        int blesses(int x, Deed deed) {
            deed.began(13);
            return shares(x, deed) - weighs(x, deed);
        }
    }

    private static final class Tramp extends Person {
        int strange(int tale, int day) {
            return 2 * super.strange(tale, day);
        }

        int eats(int number) {
            return super.eats(number) + number;
        }

        int hails(int x, Deed deed) {
            deed.began(20);
            return super.hails(x + 2, deed);
        }
    }

    private static class Pilgrim extends Person {
        int strange(int tale, int day) {
            return super.strange(tale, day) + 3;
        }

        int eats(int number) {
            return super.eats(number) - 1;
        }

        int shares(int x, Deed deed) {
            deed.began(30);
            return super.shares(x, deed) + deed.gate;
        }
    }

    private static final class Bishop extends Pilgrim {
        int strange(int tale, int day) {
            return super.strange(tale, day) + (day % 2 == 0 ? 2 : 0);
        }

        int eats(int number) {
            return super.eats(number) + 5;
        }

        int hails(int x, Deed deed) {
            deed.began(50);
            return super.hails(x, deed) - 7;
        }

        int blesses(int x, Deed deed) {
            deed.began(51);
            return super.blesses(x, deed) ^ shares(1, deed);
        }
    }

    private static class Friend extends Person {
        int strange(int tale, int day) {
            return super.strange(tale, day) / 2;
        }

        int eats(int number) {
            return 2 * super.eats(number);
        }

        int weighs(int x, Deed deed) {
            deed.began(40);
            return super.weighs(x, deed) * 2;
        }
    }

    /** The document's double; that name is the library's. */
    private static final class Twin extends Friend {
        int strange(int tale, int day) {
            return day % 3 == 2 ? 9 : super.strange(tale, day);
        }

        int eats(int number) {
            return super.eats(number) / 2 + 1;
        }

        int shares(int x, Deed deed) {
            deed.began(60);
            return 0 - super.shares(x, deed);
        }

        int weighs(int x, Deed deed) {
            deed.began(61);
            return super.weighs(x, deed) + hails(deed.gate, deed);
        }
    }

    /** One call of act(): who does it, and the trace of the bodies that ran. */
    private static final class Deed {
        int number;
        int gate;
        boolean partedBy0;
        final int[] bodies = new int[30];
        int count;

        void clear() {
            count = 0;
            partedBy0 = false;
        }

        void by(int itsNumber, int itsGate) {
            number = itsNumber;
            gate = itsGate;
        }

        /** Behind a parting by 0 no body counts: the act is at its end there. */
        void began(int body) {
            if (!partedBy0 && count < bodies.length) {
                bodies[count] = body;
                count++;
            }
        }
    }

    // ---- how it stands, and how days go by

    /** What changes as days go by; small, since plans copy it for each day that they try. */
    private static final class Course {
        int day;
        int snow;
        int loaf = FIRST_LOAF;
        int score;
        /** Four bits for each person. */
        int met;
        int fed;

        void copyFrom(Course other) {
            day = other.day;
            snow = other.snow;
            loaf = other.loaf;
            score = other.score;
            met = other.met;
            fed = other.fed;
        }

        void startAnew() {
            day = 0;
            snow = 0;
            loaf = FIRST_LOAF;
            score = 0;
            met = 0;
            fed = 0;
        }

        int metOf(int k) {
            return met >>> (4 * k) & 15;
        }

        void setMet(int k, int v) {
            met = met & ~(15 << (4 * k)) | v << (4 * k);
        }

        boolean isFed(int k) {
            return (fed & 1 << k) != 0;
        }

        void setFed(int k, int v) {
            fed = fed & ~(1 << k) | v << k;
        }

        int metSet() {
            int set = 0;
            for (int k = 0; k < MOST_PEOPLE; k++) {
                if (metOf(k) > 0) set |= 1 << k;
            }
            return set;
        }
    }

    /** All that is kept by keep(). */
    private static final class Road {
        private final Person[] kinds;
        final Course now = new Course();
        int count;
        final int[] kind = new int[MOST_PEOPLE];
        final int[] need = new int[MOST_PEOPLE];
        final int[] tale = new int[MOST_PEOPLE];
        final int[] gate = new int[MOST_PEOPLE];
        final int[] weather = new int[DAYS];
        final int[] dust = new int[GATES];
        final int[] takes = new int[GATES];
        int end = FIRST_END;
        int z = 1;
        int ruleCount;
        private final int[] code = new int[MOST_BYTES];
        private final int[] facts = new int[RuleText.FACTS];
        int reportCount;
        final int[] reportDay = new int[MOST_REPORTS];
        final int[] reportAsked = new int[MOST_REPORTS];
        final int[] reportLeast = new int[MOST_REPORTS];
        final int[] reportMost = new int[MOST_REPORTS];

        Road(Person[] itsKinds) {
            kinds = itsKinds;
            Arrays.fill(weather, FIRST_WEATHER);
            Arrays.fill(takes, FIRST_TAKES);
        }

        void copyFrom(Road other) {
            now.copyFrom(other.now);
            count = other.count;
            copyRow(other.kind, kind);
            copyRow(other.need, need);
            copyRow(other.tale, tale);
            copyRow(other.gate, gate);
            copyRow(other.weather, weather);
            copyRow(other.dust, dust);
            copyRow(other.takes, takes);
            end = other.end;
            z = other.z;
            takeRules(other.code, other.ruleCount);
            reportCount = other.reportCount;
            copyRow(other.reportDay, reportDay);
            copyRow(other.reportAsked, reportAsked);
            copyRow(other.reportLeast, reportLeast);
            copyRow(other.reportMost, reportMost);
        }

        private static void copyRow(int[] from, int[] to) {
            System.arraycopy(from, 0, to, 0, Math.min(from.length, to.length));
        }

        void takeRules(int[] itsCode, int rules) {
            copyRow(itsCode, code);
            ruleCount = rules;
        }

        boolean has(int k) {
            return within(k, 0, count - 1);
        }

        boolean isAct(int act) {
            return within(act, 0, count);
        }

        boolean isOver(Course c) {
            return c.day >= end;
        }

        int daysLeft(Course c) {
            return Math.max(0, end - c.day);
        }

        Person thingOf(int k) {
            return kinds[kind[k]];
        }

        boolean takesBy(int snow, int k) {
            return snow <= takes[gate[k]];
        }

        int strangeStill(Course c, int k) {
            int strange = thingOf(k).strange(tale[k], c.day) + dust[gate[k]];
            return Math.max(0, strange - 2 * c.metOf(k));
        }

        static boolean isOrIsUnder(int kind, int above) {
            return above == 0 || kind == above || kind == 3 && above == 2 || kind == 5 && above == 4;
        }

        int snowBehind(int day, int snow) {
            if (!within(day, 0, DAYS - 1)) return snow;
            int force = weather[day] / 4;
            switch (weather[day] % 4) {
                case 0: return Math.min(MOST_SNOW, snow + force);
                case 1: return Math.max(0, snow - force);
                case 2: return snow < 5 ? Math.min(5, snow + force) : Math.max(5, snow - force);
                default: return snow;
            }
        }

        /** A day goes by, with an act ahead of it: what it is worth. */
        int goBy(Course c, int act) {
            c.snow = snowBehind(c.day, c.snow);
            int worth = 0;
            int k = act - 1;
            if (has(k) && takesBy(c.snow, k)) {
                int strange = strangeStill(c, k);
                int will = willOf(c, k, strange);
                if (will == BREAK) worth = breakWith(c, k, strange);
                if (will == PASS) worth = 1;
                if (will != SHUT) c.setMet(k, Math.min(MOST_MET, c.metOf(k) + 1));
            }
            c.loaf = lessByDay(c.loaf, c.snow);
            c.day++;
            c.score += worth;
            return worth;
        }

        private int breakWith(Course c, int k, int strange) {
            int worth = strange;
            c.loaf = Math.min(MOST_LOAF, c.loaf + strange);
            if (c.loaf >= need[k]) {
                if (!c.isFed(k)) worth += 9;
                c.setFed(k, 1);
                c.loaf = Math.max(0, c.loaf - thingOf(k).eats(k));
            }
            return worth;
        }

        private static int lessByDay(int loaf, int snow) {
            return Math.max(0, loaf - 1 - snow / 3);
        }

        /** The act that comes ahead of the next day in the rest. */
        int restAct(Course c) {
            int snow = snowBehind(c.day, c.snow);
            for (int k = 0; k < count; k++) {
                boolean can = !c.isFed(k) && takesBy(snow, k);
                if (can && c.loaf + strangeStill(c, k) >= need[k]) return k + 1;
            }
            return 0;
        }

        int willOf(Course c, int k, int strange) {
            facts[0] = c.day;
            facts[1] = tale[k];
            facts[2] = strange;
            facts[3] = c.snow;
            facts[4] = k;
            int at = 0;
            for (int r = 0; r < ruleCount && at + RuleText.HEAD <= code.length; r++) {
                int length = code[at + 2];
                if (isOrIsUnder(kind[k], code[at]) && holds(at + RuleText.HEAD, length)) return code[at + 1];
                at += RuleText.HEAD + length;
            }
            return BREAK;
        }

        /** Truths wait as bits, the latest lowest: three "(" and the two joins leave at most nine of them. */
        private boolean holds(int from, int length) {
            int truths = 1;
            int behind = Math.min(from + length, code.length);
            int i = from;
            while (i < behind) {
                int part = code[i];
                i++;
                int latest = truths & 1;
                if (part == RuleText.NOT) {
                    truths ^= 1;
                } else if (part == RuleText.AND) {
                    truths = truths >>> 1 & (latest | ~1);
                } else if (part == RuleText.OR) {
                    truths = truths >>> 1 | latest;
                } else if (i + 1 < behind) {
                    truths = truths << 1 | compared(part, code[i], code[i + 1]);
                    i += 2;
                }
            }
            return (truths & 1) != 0;
        }

        private int compared(int sign, int left, int right) {
            int a = valueOf(left);
            int b = valueOf(right);
            boolean so = sign == RuleText.LESS ? a < b : sign == RuleText.MORE ? a > b : a == b;
            return so ? 1 : 0;
        }

        private int valueOf(int value) {
            int fact = value - RuleText.FIRST_FACT;
            return fact >= 0 && fact < facts.length ? facts[fact] : value;
        }

        // tables, rounds

        /** The set of people that aren't fed. */
        int hungry() {
            return ~now.fed & (1 << count) - 1;
        }

        int tableOf(int k) {
            if (now.isFed(k)) return 0;
            int table = 1 << k;
            // each pass but the last adds one at least, so as many passes as people are enough
            for (int pass = 0; pass < count; pass++) {
                for (int i = 0; i < count; i++) {
                    if (isCloseToAny(i, table)) table |= 1 << i;
                }
            }
            return table;
        }

        private boolean isCloseToAny(int i, int table) {
            if (now.isFed(i)) return false;
            for (int j = 0; j < count; j++) {
                boolean sits = (table & 1 << j) != 0;
                if (sits && (gate[i] == gate[j] || Math.abs(need[i] - need[j]) <= 2)) return true;
            }
            return false;
        }

        /** The fewest parts to go over all needs of a set: to the nearer end of them, then to the other end. */
        int partsOver(int from, int set) {
            int low = MOST_NEED;
            int high = 0;
            for (int k = 0; k < count; k++) {
                if ((set & 1 << k) != 0) {
                    low = Math.min(low, need[k]);
                    high = Math.max(high, need[k]);
                }
            }
            if (set == 0) return 0;
            return high - low + Math.min(Math.abs(from - low), Math.abs(from - high));
        }

        /** The same, person k being the first. */
        int partsBy(int from, int k, int set) {
            return Math.abs(from - need[k]) + partsOver(need[k], set & ~(1 << k));
        }

        // strangers: numbered by kind, then tale, then snow

        static int kindOfStranger(int s) {
            return s / 100 + 1;
        }

        static int taleOfStranger(int s) {
            return s / 10 % 10;
        }

        static int snowOfStranger(int s) {
            return s % 10;
        }

        /** The reports that are not so, if it was that stranger, as a set. */
        int reportsAgainst(int s) {
            int loaf = FIRST_LOAF;
            int snow = snowOfStranger(s);
            int come = 0;
            int last = lastReported();
            int against = reportsAgainstDay(0, loaf, snow);
            for (int day = 0; day < last; day++) {
                snow = snowBehind(day, snow);
                if (day % 2 == 0) {
                    int strange = kinds[kindOfStranger(s)].strange(taleOfStranger(s), day);
                    loaf = Math.min(MOST_LOAF, loaf + Math.max(0, strange - 2 * come));
                    come++;
                }
                loaf = lessByDay(loaf, snow);
                against |= reportsAgainstDay(day + 1, loaf, snow);
            }
            return against;
        }

        private int lastReported() {
            int last = 0;
            for (int r = 0; r < reportCount; r++) last = Math.max(last, reportDay[r]);
            return last;
        }

        private int reportsAgainstDay(int days, int loaf, int snow) {
            int against = 0;
            for (int r = 0; r < reportCount; r++) {
                if (reportDay[r] == days) {
                    int was = reportAsked[r] == 0 ? loaf : snow;
                    if (!within(was, reportLeast[r], reportMost[r])) against |= 1 << r;
                }
            }
            return against;
        }
    }

    // ---- the text of the rules

    /**
     * The tape, and the reader of its text. A text becomes tokens, and these a
     * draft of code: for each rule kind, deed and the length of its condition,
     * then the condition, a sign ahead of its two values, a join behind what it joins.
     */
    private static final class RuleText {
        /** Tokens: numbers as they are, words from WORD on as word() has them, other bytes from OTHER on. */
        static final int WORD = 10000, FIRST_KIND = WORD, FIRST_DO = WORD + 6, IF = WORD + 9;
        static final int OR = WORD + 10, AND = WORD + 11, NOT = WORD + 12, FIRST_FACT = WORD + 13, FACTS = 5, WORDS = 18;
        static final int OTHER = 20000, LESS = OTHER + '<', EQUAL = OTHER + '=', MORE = OTHER + '>';
        static final int OPEN = OTHER + '(', CLOSE = OTHER + ')', STOP = OTHER + ';';
        static final int UNKNOWN = -1, END = -2, HEAD = 3, MOST_OPEN = 3, MOST_DIGITS = 4, NO_FAULT = -1;

        private final byte[] tape = new byte[MOST_BYTES];
        int length;
        private final int[] tokens = new int[MOST_BYTES];
        private final int[] places = new int[MOST_BYTES];
        private int tokenCount;
        private int at;
        final int[] draft = new int[MOST_BYTES];
        private int size;
        int ruleCount;

        void takeByte(byte b) {
            if (length < tape.length) {
                tape[length] = b;
                length++;
            }
        }

        /** Reads the tape, which is used up: the place of its fault, or NO_FAULT. */
        int readAll() {
            splitTape();
            int bytes = length;
            length = 0;
            at = 0;
            size = 0;
            ruleCount = 0;
            boolean right = true;
            while (right && ruleCount < MOST_RULES && token() != END) {
                right = readRule();
                if (right) ruleCount++;
            }
            if (token() == END && right) return NO_FAULT;
            return at < tokenCount ? places[at] : bytes;
        }

        private void splitTape() {
            tokenCount = 0;
            int next = 0;
            while (next < length) {
                int from = next;
                next++;
                int b = tape[from] & 255;
                if (isLetter(b)) {
                    while (next < length && isLetter(tape[next])) next++;
                    addToken(wordAt(from, next), from);
                } else if (isDigit(b)) {
                    while (next < length && isDigit(tape[next])) next++;
                    addToken(numberAt(from, next), from);
                } else if (b != ' ') {
                    addToken(OTHER + b, from);
                }
            }
        }

        private static boolean isLetter(int b) {
            return within(b, 'a', 'z');
        }

        private static boolean isDigit(int b) {
            return within(b, '0', '9');
        }

        private void addToken(int token, int place) {
            if (tokenCount < tokens.length) {
                tokens[tokenCount] = token;
                places[tokenCount] = place;
                tokenCount++;
            }
        }

        private int numberAt(int from, int to) {
            if (to - from > MOST_DIGITS) return UNKNOWN;
            int number = 0;
            for (int i = from; i < to; i++) number = 10 * number + tape[i] - '0';
            return number;
        }

        private int wordAt(int from, int to) {
            for (int w = 0; w < WORDS; w++) {
                if (isWordAt(word(w), from, to)) return WORD + w;
            }
            return UNKNOWN;
        }

        private boolean isWordAt(String word, int from, int to) {
            if (word.length() != to - from) return false;
            for (int i = 0; i < word.length(); i++) {
                if (word.charAt(i) != tape[from + i]) return false;
            }
            return true;
        }

        private static String word(int w) {
            switch (w) {
                case 0: return "person";
                case 1: return "tramp";
                case 2: return "pilgrim";
                case 3: return "bishop";
                case 4: return "friend";
                case 5: return "double";
                case 6: return "break";
                case 7: return "pass";
                case 8: return "shut";
                case 9: return "if";
                case 10: return "or";
                case 11: return "and";
                case 12: return "not";
                case 13: return "day";
                case 14: return "tale";
                case 15: return "strange";
                case 16: return "snow";
                default: return "number";
            }
        }

        private int token() {
            return at < tokenCount ? tokens[at] : END;
        }

        // Each reader leaves the place at the first token that can't stand there, and answers false then.

        private boolean readRule() {
            int kind = token() - FIRST_KIND;
            if (!within(kind, 0, 5)) return false;
            at++;
            int head = size;
            put(kind);
            put(BREAK);
            put(0);
            if (token() == IF) {
                at++;
                if (!readAny(0)) return false;
            }
            int deed = token() - FIRST_DO;
            if (!within(deed, BREAK, SHUT)) return false;
            at++;
            if (token() != STOP) return false;
            at++;
            if (head + HEAD <= draft.length) {
                draft[head + 1] = deed;
                draft[head + 2] = size - head - HEAD;
            }
            return true;
        }

        private boolean readAny(int open) {
            if (!readEach(open)) return false;
            while (at < tokenCount && token() == OR) {
                at++;
                if (!readEach(open)) return false;
                put(OR);
            }
            return true;
        }

        private boolean readEach(int open) {
            if (!readOne(open)) return false;
            while (at < tokenCount && token() == AND) {
                at++;
                if (!readOne(open)) return false;
                put(AND);
            }
            return true;
        }

        private boolean readOne(int open) {
            boolean turned = false;
            while (at < tokenCount && token() == NOT) {
                turned = !turned;
                at++;
            }
            if (token() == OPEN) {
                if (open >= MOST_OPEN) return false;
                at++;
                if (!readAny(open + 1) || token() != CLOSE) return false;
                at++;
            } else if (!readComparison()) {
                return false;
            }
            if (turned) put(NOT);
            return true;
        }

        private boolean readComparison() {
            int left = token();
            if (!isValue(left)) return false;
            at++;
            int sign = token();
            if (sign != LESS && sign != EQUAL && sign != MORE) return false;
            at++;
            int right = token();
            if (!isValue(right)) return false;
            at++;
            put(sign);
            put(left);
            put(right);
            return true;
        }

        private static boolean isValue(int token) {
            return token >= 0 && token < WORD || token >= FIRST_FACT && token < FIRST_FACT + FACTS;
        }

        private void put(int part) {
            if (size < draft.length) {
                draft[size] = part;
                size++;
            }
        }
    }

    // ---- plans and games

    private static final class Planner {
        private final Road road;
        /** The course behind so many days of the plan that is tried. */
        private final Course[] levels = new Course[MOST_PLANNED + 1];
        private final int[] path = new int[MOST_PLANNED];
        private int wanted;
        /** How many days the plans have. */
        int length;
        int mostWorth;
        int bestPlans;
        final int[] first = new int[MOST_PLANNED];
        /** Below 0 if no plan feeds all that are wanted. */
        int fewestTold;
        /** Those that are fed behind some plan. */
        int everFed;
        /** The least act that comes to the value of the latest game. */
        int opening;

        Planner(Road itsRoad) {
            road = itsRoad;
            for (int i = 0; i < levels.length; i++) levels[i] = new Course();
        }

        private void start(int n) {
            levels[0].copyFrom(road.now);
            length = Math.min(Math.min(n, MOST_PLANNED), road.daysLeft(road.now));
        }

        /** Tries all plans of n, in the order of their acts. */
        void tryPlans(int n, int set) {
            start(n);
            wanted = set;
            mostWorth = -1;
            bestPlans = 0;
            fewestTold = -1;
            everFed = 0;
            tryActs(0, 0);
        }

        private void tryActs(int depth, int told) {
            if (depth >= length) {
                weighPlan(levels[depth], told);
                return;
            }
            Course next = levels[depth + 1];
            for (int act = 0; act <= road.count; act++) {
                path[depth] = act;
                next.copyFrom(levels[depth]);
                road.goBy(next, act);
                tryActs(depth + 1, act == 0 ? told : told + 1);
            }
        }

        private void weighPlan(Course behind, int told) {
            int worth = behind.score - levels[0].score;
            if (worth > mostWorth) {
                mostWorth = worth;
                bestPlans = 0;
                System.arraycopy(path, 0, first, 0, length);
            }
            if (worth == mostWorth) bestPlans++;
            everFed |= behind.fed;
            boolean feeds = (behind.fed & wanted) == wanted;
            if (feeds && (fewestTold < 0 || told < fewestTold)) fewestTold = told;
        }

        int valueOfGame(int n) {
            start(n);
            opening = 0;
            return valueFrom(0);
        }

        private int valueFrom(int depth) {
            if (depth >= length) return 0;
            boolean wantsMost = depth % 2 == 0;
            Course next = levels[depth + 1];
            int value = 0;
            for (int act = 0; act <= road.count; act++) {
                next.copyFrom(levels[depth]);
                int worth = road.goBy(next, act) + valueFrom(depth + 1);
                if (act == 0 || (wantsMost ? worth > value : worth < value)) {
                    value = worth;
                    if (depth == 0) opening = act;
                }
            }
            return value;
        }
    }
}

import java.util.ArrayList;
import java.util.Arrays;
import java.util.List;

/**
 * The document said over again in the plainest way, to be compared with the
 * class by random calls: whole states are copied, all plans are listed, rules
 * are trees, rounds are tried in every order.
 */
final class Model {
    static final int BAD = -1, FULL = -2, NONE = -3, STATE = -4;

    static final class Guest {
        int kind, need, tale, gate, met;
        boolean fed;

        Guest copy() {
            Guest g = new Guest();
            g.kind = kind;
            g.need = need;
            g.tale = tale;
            g.gate = gate;
            g.met = met;
            g.fed = fed;
            return g;
        }
    }

    interface Cond {
        boolean holds(int[] facts);
    }

    static final class Rule {
        int kind, deed;
        Cond cond;
    }

    static final class All {
        int day = 0, end = 12, snow = 0, loaf = 12, score = 0, z = 1;
        int[] weather = new int[16], dust = new int[6], takes = new int[6];
        List<Guest> people = new ArrayList<>();
        List<Rule> rules = new ArrayList<>();
        List<int[]> reports = new ArrayList<>();

        All() {
            Arrays.fill(weather, 4);
            Arrays.fill(takes, 5);
        }

        All copy() {
            All a = new All();
            a.day = day;
            a.end = end;
            a.snow = snow;
            a.loaf = loaf;
            a.score = score;
            a.z = z;
            a.weather = weather.clone();
            a.dust = dust.clone();
            a.takes = takes.clone();
            for (Guest g : people) a.people.add(g.copy());
            a.rules = new ArrayList<>(rules);
            a.reports = new ArrayList<>(reports);
            return a;
        }

        boolean over() {
            return day >= end;
        }

        int still(int k) {
            Guest g = people.get(k);
            int s = strange(g.kind, g.tale, day) + dust[g.gate] - 2 * g.met;
            return s < 0 ? 0 : s;
        }

        int will(int k) {
            Guest g = people.get(k);
            int[] facts = {day, g.tale, still(k), snow, k};
            for (Rule r : rules) if (under(g.kind, r.kind) && r.cond.holds(facts)) return r.deed;
            return 0;
        }

        void blow() {
            snow = blown(weather[day], snow);
        }

        int rest() {
            blow();
            int who = 0;
            for (int k = people.size() - 1; k >= 0; k--) {
                Guest g = people.get(k);
                if (!g.fed && snow <= takes[g.gate] && loaf + still(k) >= g.need) who = k + 1;
            }
            return behindSnow(who);
        }

        int go(int act) {
            blow();
            return behindSnow(act);
        }

        private int behindSnow(int act) {
            int worth = 0;
            if (act > 0 && snow <= takes[people.get(act - 1).gate]) {
                Guest g = people.get(act - 1);
                int will = will(act - 1);
                int s = still(act - 1);
                if (will != 2 && g.met < 9) g.met++;
                if (will == 1) worth = 1;
                if (will == 0) {
                    loaf = Math.min(999, loaf + s);
                    worth = s;
                    if (loaf >= g.need) {
                        if (!g.fed) worth += 9;
                        g.fed = true;
                        loaf = Math.max(0, loaf - eats(g.kind, act - 1));
                    }
                }
            }
            loaf = Math.max(0, loaf - (1 + snow / 3));
            day++;
            score += worth;
            return worth;
        }

        int fedSet() {
            int set = 0;
            for (int k = 0; k < people.size(); k++) if (people.get(k).fed) set += 1 << k;
            return set;
        }
    }

    static int blown(int weather, int snow) {
        int force = weather / 4;
        for (int i = 0; i < force; i++) {
            if (weather % 4 == 0 && snow < 9) snow++;
            if (weather % 4 == 1 && snow > 0) snow--;
            if (weather % 4 == 2) snow += Integer.signum(5 - snow);
        }
        return snow;
    }

    static boolean under(int kind, int above) {
        int[][] up = {{0}, {1, 0}, {2, 0}, {3, 2, 0}, {4, 0}, {5, 4, 0}};
        for (int u : up[kind]) if (u == above) return true;
        return false;
    }

    static int strange(int kind, int tale, int day) {
        switch (kind) {
            case 1: return tale + tale;
            case 2: return tale + 3;
            case 3: return tale + 3 + (day % 2 == 0 ? 2 : 0);
            case 4: return tale / 2;
            case 5: return day % 3 == 2 ? 9 : tale / 2;
            default: return tale;
        }
    }

    static int eats(int kind, int number) {
        return new int[] {3, 3 + number, 2, 7, 6, 4}[kind];
    }

    All all = new All();
    All kept = null;
    List<Integer> tape = new ArrayList<>();
    List<int[]> rows = new ArrayList<>();
    Object[] sheets = new Object[4];
    Object[] shelves = new Object[4];
    List<Integer> trace = new ArrayList<>();

    static boolean in(long v, long a, long b) {
        return a <= v && v <= b;
    }

    boolean is(int k) {
        return in(k, 0, all.people.size() - 1);
    }

    public int person(int kind, int need, int tale, int gate) {
        if (!in(kind, 1, 5) || !in(need, 0, 60) || !in(tale, 0, 9) || !in(gate, 0, 5)) return BAD;
        if (all.people.size() == 6) return FULL;
        Guest g = new Guest();
        g.kind = kind;
        g.need = need;
        g.tale = tale;
        g.gate = gate;
        all.people.add(g);
        return all.people.size() - 1;
    }

    public int personOf(int k, int what) {
        if (!is(k) || !in(what, 0, 9)) return BAD;
        Guest g = all.people.get(k);
        int takes = all.snow <= all.takes[g.gate] ? 1 : 0;
        return new int[] {g.kind, g.need, g.tale, g.gate, g.met, g.fed ? 1 : 0, all.still(k), eats(g.kind, k), all.will(k), takes}[what];
    }

    public int change(int k, int what, int v) {
        int old = personOf(k, what);
        if (!in(what, 1, 5) || !is(k) || !in(v, 0, new int[] {0, 60, 9, 5, 9, 1}[what])) return BAD;
        Guest g = all.people.get(k);
        if (what == 1) g.need = v;
        if (what == 2) g.tale = v;
        if (what == 3) g.gate = v;
        if (what == 4) g.met = v;
        if (what == 5) g.fed = v == 1;
        return old;
    }

    public int remake(int k, int kind) {
        if (!is(k) || !in(kind, 1, 5)) return BAD;
        int old = all.people.get(k).kind;
        all.people.get(k).kind = kind;
        return old;
    }

    public int weather(int day, int v) {
        if (!in(day, 0, 15) || !in(v, 0, 15)) return BAD;
        int old = all.weather[day];
        all.weather[day] = v;
        return old;
    }

    public int gate(int g, int what, int v) {
        if (!in(g, 0, 5) || !in(what, 0, 1) || !in(v, 0, 9)) return BAD;
        int old = gateOf(g, what);
        (what == 0 ? all.dust : all.takes)[g] = v;
        return old;
    }

    public int gateOf(int g, int what) {
        if (!in(g, 0, 5) || !in(what, 0, 1)) return BAD;
        return (what == 0 ? all.dust : all.takes)[g];
    }

    public int house(int what, int v) {
        if (what == 0 && in(v, 0, 9)) {
            int old = all.snow;
            all.snow = v;
            return old;
        }
        if (what == 1 && in(v, 0, 999)) {
            int old = all.loaf;
            all.loaf = v;
            return old;
        }
        return BAD;
    }

    public int ends(int v) {
        if (!in(v, 1, 16)) return BAD;
        if (v < all.day) return STATE;
        int old = all.end;
        all.end = v;
        return old;
    }

    public int anew() {
        int old = all.day;
        all.day = all.score = all.snow = 0;
        all.loaf = 12;
        for (Guest g : all.people) {
            g.met = 0;
            g.fed = false;
        }
        return old;
    }

    public int state(int what) {
        if (!in(what, 0, 8)) return BAD;
        int met = 0;
        for (int k = 0; k < all.people.size(); k++) if (all.people.get(k).met != 0) met += 1 << k;
        int weather = all.day < 16 ? all.weather[all.day] : 0;
        return new int[] {all.day, all.end, all.score, all.over() ? 1 : 0, met, all.fedSet(), weather, all.snow, all.loaf}[what];
    }

    public int feed(long eight, int n) {
        if (!in(n, 1, 8)) return BAD;
        if (tape.size() + n > 200) return FULL;
        for (int i = 0; i < n; i++) {
            tape.add((int) (eight & 255));
            eight >>= 8;
        }
        return tape.size();
    }

    // ---- a reader of texts that goes by characters and throws its fault

    static final class Fault extends Exception {
        private static final long serialVersionUID = 1;
        final int place;

        Fault(int place) {
            this.place = place;
        }
    }

    private String text;
    private int at;

    private String peek() {
        while (at < text.length() && text.charAt(at) == ' ') at++;
        if (at == text.length()) return "";
        int to = at;
        while (to < text.length() && text.charAt(to) >= 'a' && text.charAt(to) <= 'z') to++;
        if (to == at) while (to < text.length() && text.charAt(to) >= '0' && text.charAt(to) <= '9') to++;
        if (to == at) to++;
        return text.substring(at, to);
    }

    private String take(String... may) throws Fault {
        String t = peek();
        for (String m : may) {
            if (m.equals(t)) {
                at += t.length();
                return t;
            }
        }
        throw new Fault(at);
    }

    private static final List<String> KINDS = Arrays.asList("person", "tramp", "pilgrim", "bishop", "friend", "double");
    private static final List<String> DEEDS = Arrays.asList("break", "pass", "shut");
    private static final List<String> FACTS = Arrays.asList("day", "tale", "strange", "snow", "number");

    public int rules() {
        StringBuilder s = new StringBuilder();
        for (int b : tape) s.append((char) b);
        tape.clear();
        text = s.toString();
        at = 0;
        List<Rule> told = new ArrayList<>();
        try {
            while (!peek().isEmpty()) {
                if (told.size() == 8) throw new Fault(at);
                Rule r = new Rule();
                r.kind = KINDS.indexOf(take(KINDS.toArray(new String[0])));
                r.cond = f -> true;
                if (peek().equals("if")) {
                    take("if");
                    r.cond = any(0);
                }
                r.deed = DEEDS.indexOf(take("break", "pass", "shut"));
                take(";");
                told.add(r);
            }
        } catch (Fault f) {
            return -100 - f.place;
        }
        all.rules = told;
        return told.size();
    }

    private Cond any(int open) throws Fault {
        Cond left = every(open);
        while (peek().equals("or")) {
            take("or");
            Cond a = left;
            Cond b = every(open);
            left = f -> a.holds(f) || b.holds(f);
        }
        return left;
    }

    private Cond every(int open) throws Fault {
        Cond left = one(open);
        while (peek().equals("and")) {
            take("and");
            Cond a = left;
            Cond b = one(open);
            left = f -> a.holds(f) && b.holds(f);
        }
        return left;
    }

    private Cond one(int open) throws Fault {
        if (peek().equals("not")) {
            take("not");
            Cond c = one(open);
            return f -> !c.holds(f);
        }
        if (peek().equals("(")) {
            if (open == 3) throw new Fault(at);
            take("(");
            Cond c = any(open + 1);
            take(")");
            return c;
        }
        int a = value();
        String sign = take("<", "=", ">");
        int b = value();
        return f -> {
            int x = a < 0 ? f[-1 - a] : a;
            int y = b < 0 ? f[-1 - b] : b;
            return sign.equals("<") ? x < y : sign.equals(">") ? x > y : x == y;
        };
    }

    private int value() throws Fault {
        String t = peek();
        if (FACTS.contains(t)) {
            take(t);
            return -1 - FACTS.indexOf(t);
        }
        if (t.matches("[0-9]{1,4}")) {
            take(t);
            return Integer.parseInt(t);
        }
        throw new Fault(at);
    }

    // ---- days

    public int day() {
        return all.over() ? STATE : all.rest();
    }

    public int on(int n) {
        return in(n, 0, 16) ? restWorth(all.copy(), n) : BAD;
    }

    private static int restWorth(All a, int n) {
        int worth = 0;
        while (n-- > 0 && !a.over()) worth += a.rest();
        return worth;
    }

    public int when(int k) {
        if (!is(k)) return BAD;
        All a = all.copy();
        while (!a.people.get(k).fed && !a.over()) a.rest();
        return all.people.get(k).fed || !a.people.get(k).fed ? NONE : a.day - 1;
    }

    public int taleFor(int k) {
        if (!is(k)) return BAD;
        int[] worth = new int[10];
        for (int t = 0; t < 10; t++) {
            All a = all.copy();
            a.people.get(k).tale = t;
            worth[t] = restWorth(a, 99);
        }
        return firstMost(worth);
    }

    public int gateFor(int k) {
        if (!is(k)) return BAD;
        int[] worth = new int[6];
        for (int t = 0; t < 6; t++) {
            All a = all.copy();
            a.people.get(k).gate = t;
            worth[t] = restWorth(a, 99);
        }
        return firstMost(worth);
    }

    private static int firstMost(int[] worth) {
        int most = Arrays.stream(worth).max().getAsInt();
        int i = 0;
        while (worth[i] != most) i++;
        return i;
    }

    public int bakery(int v) {
        if (!in(v, 0, 999)) return BAD;
        All a = all.copy();
        while (!a.over()) {
            a.rest();
            if (a.loaf >= v) return a.day - 1;
        }
        return NONE;
    }

    public int winter(int what) {
        if (!in(what, 0, 1)) return BAD;
        All a = all.copy();
        int days = 0;
        while (!a.over()) {
            int before = Integer.bitCount(a.fedSet());
            a.rest();
            if (Integer.bitCount(a.fedSet()) == before) days++;
        }
        return what == 0 ? days : a.loaf;
    }

    public int tables(int what) {
        int n = all.people.size();
        if (what != -1 && !is(what)) return BAD;
        int[] table = new int[n];
        for (int k = 0; k < n; k++) table[k] = k;
        for (int i = 0; i < n; i++) {
            for (int j = 0; j < n; j++) {
                Guest a = all.people.get(i);
                Guest b = all.people.get(j);
                boolean close = !a.fed && !b.fed && (a.gate == b.gate || Math.abs(a.need - b.need) < 3);
                if (close) {
                    int from = table[i];
                    for (int k = 0; k < n; k++) if (table[k] == from) table[k] = table[j];
                }
            }
        }
        int sets = 0;
        int set = 0;
        for (int k = 0; k < n; k++) {
            if (all.people.get(k).fed) continue;
            sets |= 1 << table[k];
            if (what >= 0 && !all.people.get(what).fed && table[k] == table[what]) set |= 1 << k;
        }
        return what == -1 ? Integer.bitCount(sets) : set;
    }

    public int rounds(int loaf, int what) {
        if (!in(loaf, 0, 999) || !in(what, 0, 1)) return BAD;
        List<int[]> found = new ArrayList<>();
        orders(loaf, all.fedSet(), 0, -1, found);
        int[] best = found.get(0);
        for (int[] f : found) if (f[0] < best[0]) best = f;
        return what == 0 ? best[0] : best[1] < 0 ? NONE : best[1];
    }

    private void orders(int at, int done, int parts, int first, List<int[]> found) {
        boolean end = true;
        for (int k = 0; k < all.people.size(); k++) {
            if ((done >> k & 1) == 1) continue;
            end = false;
            int need = all.people.get(k).need;
            orders(need, done | 1 << k, parts + Math.abs(at - need), first < 0 ? k : first, found);
        }
        if (end) found.add(new int[] {parts, first});
    }

    // ---- plans: all of them, in the order of their acts

    private static final class Plan {
        int[] acts;
        int worth;
        int fed;
    }

    private List<Plan> plans(int n) {
        List<Plan> found = new ArrayList<>();
        plans(all, new int[0], n, found);
        return found;
    }

    private void plans(All a, int[] acts, int n, List<Plan> found) {
        if (n == 0 || a.over()) {
            Plan p = new Plan();
            p.acts = acts;
            p.worth = a.score - all.score;
            p.fed = a.fedSet();
            found.add(p);
            return;
        }
        for (int act = 0; act <= a.people.size(); act++) {
            All next = a.copy();
            next.go(act);
            int[] more = Arrays.copyOf(acts, acts.length + 1);
            more[acts.length] = act;
            plans(next, more, n - 1, found);
        }
    }

    private List<Plan> bestPlans(int n) {
        List<Plan> found = plans(n);
        int most = found.stream().mapToInt(p -> p.worth).max().getAsInt();
        found.removeIf(p -> p.worth != most);
        return found;
    }

    public int best(int n) {
        return in(n, 0, 4) ? bestPlans(n).get(0).worth : BAD;
    }

    public int ith(int n, int i) {
        if (!in(n, 0, 4) || !in(i, 0, 3)) return BAD;
        int[] acts = bestPlans(n).get(0).acts;
        return i < acts.length ? acts[i] : NONE;
    }

    public int ways(int n) {
        return in(n, 0, 4) ? bestPlans(n).size() : BAD;
    }

    public int feast(int n, int people) {
        if (!in(n, 0, 4) || !in(people, 0, (1 << all.people.size()) - 1)) return BAD;
        return plans(n).stream().filter(p -> (people & ~p.fed) == 0)
            .mapToInt(p -> (int) Arrays.stream(p.acts).filter(a -> a != 0).count()).min().orElse(NONE);
    }

    public int bars(int n, int people) {
        if (!in(n, 0, 4) || !in(people, 0, (1 << all.people.size()) - 1)) return BAD;
        List<Plan> found = plans(n);
        for (int k = 0; k < 6; k++) {
            int one = 1 << k;
            if ((people & one) != 0 && found.stream().noneMatch(p -> (p.fed & one) != 0)) return k;
        }
        return NONE;
    }

    private static int value(All a, int n, boolean first) {
        if (n == 0 || a.over()) return 0;
        int value = first ? Integer.MIN_VALUE : Integer.MAX_VALUE;
        for (int act = 0; act <= a.people.size(); act++) {
            int v = valueOf(a, act, n, first);
            value = first ? Math.max(value, v) : Math.min(value, v);
        }
        return value;
    }

    private static int valueOf(All a, int act, int n, boolean first) {
        All next = a.copy();
        return next.go(act) + value(next, n - 1, !first);
    }

    public int game(int n) {
        return in(n, 1, 4) ? value(all, n, true) : BAD;
    }

    public int play(int n) {
        if (!in(n, 1, 4)) return BAD;
        if (all.over()) return NONE;
        int act = 0;
        while (valueOf(all, act, n, true) != game(n)) act++;
        return act;
    }

    public int report(int k, int asked, int least, int most) {
        if (!in(k, 0, 15) || !in(asked, 0, 1)) return BAD;
        int top = asked == 0 ? 999 : 9;
        if (!in(least, 0, top) || !in(most, 0, top) || most < least) return BAD;
        if (all.reports.size() == 6) return FULL;
        all.reports.add(new int[] {k, asked, least, most});
        return all.reports.size() - 1;
    }

    public int forget() {
        int old = all.reports.size();
        all.reports.clear();
        return old;
    }

    private boolean isSo(int[] report, int kind, int tale, int snow) {
        int loaf = 12;
        for (int d = 0; d < report[0]; d++) {
            snow = blown(all.weather[d], snow);
            if (d % 2 == 0) loaf = Math.min(999, loaf + Math.max(0, strange(kind, tale, d) - 2 * (d / 2)));
            loaf = Math.max(0, loaf - 1 - snow / 3);
        }
        return in(report[1] == 0 ? loaf : snow, report[2], report[3]);
    }

    private List<int[]> fitting(int but) {
        List<int[]> found = new ArrayList<>();
        for (int kind = 1; kind < 6; kind++) {
            for (int tale = 0; tale < 10; tale++) {
                for (int snow = 0; snow < 10; snow++) {
                    boolean fits = true;
                    for (int r = 0; r < all.reports.size() && fits; r++) {
                        fits = r == but || isSo(all.reports.get(r), kind, tale, snow);
                    }
                    if (fits) found.add(new int[] {0, kind, tale, snow});
                }
            }
        }
        return found;
    }

    public int tales(int what) {
        if (!in(what, 0, 3)) return BAD;
        List<int[]> found = fitting(-1);
        if (what == 0) return found.size();
        return found.isEmpty() ? NONE : found.get(0)[what];
    }

    public int liar() {
        if (!fitting(-1).isEmpty()) return NONE;
        for (int r = 0; r < all.reports.size(); r++) if (!fitting(r).isEmpty()) return r;
        return NONE;
    }

    public int seed(int v) {
        int old = all.z;
        all.z = v;
        return old;
    }

    private static int chance(All a) {
        a.z = a.z * 1103515245 + 12345;
        return a.go((a.z >>> 16) % (a.people.size() + 1));
    }

    public int lot() {
        return all.over() ? STATE : chance(all);
    }

    public int times(int n, int v) {
        if (!in(n, 1, 40) || !in(v, 0, 999)) return BAD;
        int z = all.z;
        int enough = 0;
        for (int t = 0; t < n; t++) {
            All a = all.copy();
            a.z = z;
            while (!a.over()) chance(a);
            z = a.z;
            if (a.score - all.score >= v) enough++;
        }
        return enough;
    }

    // ---- rows

    public int prove(int n) {
        if (!in(n, 0, 4)) return BAD;
        rows.clear();
        All a = all.copy();
        for (int act : bestPlans(n).get(0).acts) rows.add(new int[] {act, a.go(act), a.fedSet()});
        return rows.size();
    }

    public int row(int k, int what) {
        return in(k, 0, rows.size() - 1) && in(what, 0, 2) ? rows.get(k)[what] : -9;
    }

    public int alterRow(int k, int what, int v) {
        int old = row(k, what);
        if (in(k, 0, rows.size() - 1) && in(what, 0, 2)) rows.get(k)[what] = v;
        return old;
    }

    public int judge() {
        All a = all.copy();
        for (int k = 0; k < rows.size(); k++) {
            int[] r = rows.get(k);
            if (a.over() || !in(r[0], 0, a.people.size()) || a.go(r[0]) != r[1] || a.fedSet() != r[2]) return k + 1;
        }
        return 0;
    }

    // ---- the host, with real rows

    private static int sortOf(Object row) {
        return row instanceof byte[] ? 0 : row instanceof short[] ? 1 : row instanceof int[] ? 2 : row instanceof long[] ? 3 : 4;
    }

    public int sheet(int sheet, int sort, int n) {
        if (!in(sheet, 0, 3) || !in(sort, -1, 4) || sort != -1 && n > 40) return BAD;
        if (sort != -1 && n < 0) return -14;
        sheets[sheet] = sort == -1 ? null : sort == 0 ? new byte[n] : sort == 1 ? new short[n]
            : sort == 2 ? new int[n] : sort == 3 ? (Object) new long[n] : new boolean[n];
        return 1;
    }

    public int write(int sheet, int i, int v) {
        if (!in(sheet, 0, 3)) return BAD;
        Object row = sheets[sheet];
        if (row == null) return -11;
        if (!in(i, 0, java.lang.reflect.Array.getLength(row) - 1)) return -12;
        if (row instanceof byte[]) ((byte[]) row)[i] = (byte) v;
        if (row instanceof short[]) ((short[]) row)[i] = (short) v;
        if (row instanceof int[]) ((int[]) row)[i] = v;
        if (row instanceof long[]) ((long[]) row)[i] = v;
        if (row instanceof boolean[]) ((boolean[]) row)[i] = v != 0;
        return 1;
    }

    public int item(int sheet, int sort, int i) {
        if (!in(sheet, 0, 3) || !in(sort, 0, 4)) return BAD;
        Object row = sheets[sheet];
        if (row == null) return -11;
        if (sortOf(row) != sort) return -13;
        if (!in(i, 0, java.lang.reflect.Array.getLength(row) - 1)) return -12;
        if (row instanceof boolean[]) return ((boolean[]) row)[i] ? 1 : 0;
        return (int) java.lang.reflect.Array.getLong(row, i);
    }

    public int goAll(int sheet, int i, int n) {
        if (!in(sheet, 0, 3) || !in(n, 0, 20)) return BAD;
        Object row = sheets[sheet];
        if (row == null) return -11;
        if (!(row instanceof byte[])) return -13;
        int worth = 0;
        for (long j = i; j < (long) i + n; j++) {
            if (!in(j, 0, ((byte[]) row).length - 1)) return -12;
            int act = ((byte[]) row)[(int) j];
            if (in(act, 0, all.people.size()) && !all.over()) worth += all.go(act);
        }
        return worth;
    }

    public int wouldBe(int sheet, int i, int n) {
        if (!in(sheet, 0, 3) || !in(n, 0, 20)) return BAD;
        Object row = sheets[sheet];
        if (row == null) return -11;
        if (!(row instanceof byte[])) return -13;
        All a = all.copy();
        for (long j = i; j < (long) i + n; j++) {
            if (!in(j, 0, ((byte[]) row).length - 1)) return -12;
            int act = ((byte[]) row)[(int) j];
            if (!in(act, 0, all.people.size()) || a.over()) return STATE;
            a.go(act);
        }
        return a.score - all.score;
    }

    public int shelf(int shelf, int what, int n) {
        if (!in(shelf, 0, 3) || !in(what, 0, 2)) return BAD;
        if (what == 0 && !is(n) || what == 1 && !in(n, 0, 3)) return BAD;
        shelves[shelf] = what == 0 ? (Object) n : what == 1 ? sheets[n] : null;
        return 1;
    }

    private Object held(int shelf) {
        Object o = shelves[shelf];
        return o instanceof Integer && !is((Integer) o) ? null : o;
    }

    public int taken(int shelf, int as) {
        if (!in(shelf, 0, 3) || !in(as, 0, 5) && !in(as, 10, 14)) return BAD;
        Object o = held(shelf);
        if (o == null) return -11;
        if (o instanceof Integer) {
            int k = (Integer) o;
            return as < 6 && under(all.people.get(k).kind, as) ? k : -13;
        }
        return sortOf(o) + 10 == as ? java.lang.reflect.Array.getLength(o) : -13;
    }

    // bodies by the table: a call by a kind's name looks for the body at that kind or above it

    private int callKind, callN, callA;

    private static int aboveOf(int kind) {
        return new int[] {-1, 0, 0, 2, 0, 4}[kind];
    }

    private int run(int from, int act, int x) {
        for (int kind = from; ; kind = aboveOf(kind)) {
            switch (10 * kind + act) {
                case 0: return body(10, x ^ callN);
                case 1: mark(11); return self(0, x) * 3;
                case 2: mark(12); return x % (callA + 1 - callN);
                case 3: {
                    mark(13);
                    int s = self(1, x);
                    return s - self(2, x);
                }
                case 10: mark(20); return run(0, 0, x + 2);
                case 21: mark(30); return run(0, 1, x) + callA;
                case 42: mark(40); return run(0, 2, x) * 2;
                case 30: mark(50); return run(2, 0, x) - 7;
                case 33: {
                    mark(51);
                    int b = run(2, 3, x);
                    return b ^ self(1, 1);
                }
                case 51: mark(60); return -run(4, 1, x);
                case 52: {
                    mark(61);
                    int w = run(4, 2, x);
                    return w + self(0, callA);
                }
                default: break;
            }
        }
    }

    private int body(int number, int answer) {
        mark(number);
        return answer;
    }

    private void mark(int number) {
        if (trace.size() < 30) trace.add(number);
    }

    private int self(int act, int x) {
        return run(callKind, act, x);
    }

    public int act(int shelf, int act, int x) {
        trace.clear();
        if (!in(shelf, 0, 3) || !in(act, 0, 3) || !(held(shelf) instanceof Integer)) return 0;
        callN = (Integer) held(shelf);
        callKind = all.people.get(callN).kind;
        callA = all.people.get(callN).gate;
        try {
            return self(act, x);
        } catch (ArithmeticException e) {
            return -15;
        }
    }

    public int trace(int i) {
        return in(i, 0, trace.size() - 1) ? trace.get(i) : NONE;
    }

    public int many(int what) {
        if (!in(what, 0, 6)) return BAD;
        return new int[] {all.people.size(), all.rules.size(), Integer.bitCount(all.fedSet()), all.reports.size(),
            rows.size(), tape.size(), trace.size()}[what];
    }

    public int keep() {
        kept = all.copy();
        return 1;
    }

    public int again() {
        if (kept == null) return NONE;
        all = kept.copy();
        return all.people.size();
    }
}

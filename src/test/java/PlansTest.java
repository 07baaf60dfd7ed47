import java.util.Arrays;

/** Promises 24 to 30 and 38 to 41: plans, the game, rows. Plans are tried by real days, kept and had again. */
public final class PlansTest {
    public static void main(String[] args) {
        ofNobody();
        byRealDays(Check.five(), "");
        byRealDays(Check.five(), "tramp if day < 1 shut; pilgrim pass; double if strange > 5 and not snow < 2 break;");
        byRealDays(crowd(), "");
        asTheFirstCall();
        aGameInWhichNoneIsNotBest();
        nearTheEnd();
        wrongInputs();
        rows();
        judging();
        askingChangesNothing();
        Check.finish();
    }

    private static BrokenLoaves crowd() {
        BrokenLoaves x = new BrokenLoaves();
        for (int k = 0; k < 6; k++) x.person(1 + k % 5, 10 + 7 * k, 9 - k, k);
        for (int d = 0; d < 16; d++) x.weather(d, (5 * d + 4) % 16);
        x.gate(3, 0, 8);
        x.gate(2, 1, 0);
        x.change(4, 5, 1);
        return x;
    }

    private static void ofNobody() {
        BrokenLoaves x = new BrokenLoaves();
        for (int n = 0; n <= 4; n++) {
            Check.due("24 nobody", x.best(n), 0);
            Check.due("26 one way", x.ways(n), 1);
            Check.due("27 no one", x.feast(n, 0), 0);
            Check.due("28 no one", x.bars(n, 0), -3);
            for (int i = 0; i < 4; i++) Check.due("25 nobody", x.ith(n, i), i < n ? 0 : -3);
        }
        Check.due("29 nobody", x.game(4), 0);
        Check.due("30 nobody", x.play(4), 0);
        Check.due("27 people that there are not", x.feast(4, 1), -1);
        Check.due("28 people that there are not", x.bars(4, 1), -1);
    }

    // what the plans of n come to, by days that really go by

    private static int people, most, ways, ever;
    private static int[] first, fewest;

    private static void byRealDays(BrokenLoaves x, String text) {
        Check.rules(x, text);
        people = x.many(0);
        x.sheet(0, 0, 1);
        for (int n = 0; n <= 4; n++) {
            most = -1;
            ways = 0;
            ever = 0;
            fewest = new int[1 << people];
            Arrays.fill(fewest, -3);
            tryAll(x, new int[0], n);
            Check.due("24 best " + n, x.best(n), most);
            Check.due("26 ways " + n, x.ways(n), ways);
            for (int i = 0; i < 4; i++) Check.due("25 ith " + n + " " + i, x.ith(n, i), i < n ? first[i] : -3);
            for (int set = 0; set < 1 << people; set++) {
                if (n == 4 && set % 5 != 0) continue;
                Check.due("27 feast " + n + " " + set, x.feast(n, set), fewest[set]);
                int bar = set & ~ever;
                Check.due("28 bars " + n + " " + set, x.bars(n, set), bar == 0 ? -3 : Integer.numberOfTrailingZeros(bar));
            }
            if (n > 0) {
                Check.due("29 game " + n, x.game(n), value(x, new int[0], n));
                int opening = 0;
                while (opening < people && value(x, new int[] {opening}, n) != x.game(n)) opening++;
                Check.due("30 play " + n, x.play(n), opening);
            }
        }
    }

    /** Goes a plan from how it is now, tells its worth and who is fed, and has all again. */
    private static int[] go(BrokenLoaves x, int[] acts) {
        x.keep();
        int worth = 0;
        for (int act : acts) {
            x.write(0, 0, act);
            worth += x.goAll(0, 0, 1);
        }
        int fed = x.state(5);
        x.again();
        return new int[] {worth, fed};
    }

    private static int[] with(int[] acts, int act) {
        int[] more = Arrays.copyOf(acts, acts.length + 1);
        more[acts.length] = act;
        return more;
    }

    private static void tryAll(BrokenLoaves x, int[] acts, int n) {
        if (acts.length < n) {
            for (int act = 0; act <= people; act++) tryAll(x, with(acts, act), n);
            return;
        }
        int[] is = go(x, acts);
        if (is[0] > most) {
            most = is[0];
            ways = 0;
            first = acts;
        }
        if (is[0] == most) ways++;
        ever |= is[1];
        int told = 0;
        for (int act : acts) told += act == 0 ? 0 : 1;
        for (int set = 0; set < fewest.length; set++) {
            if ((set & ~is[1]) == 0 && (fewest[set] < 0 || told < fewest[set])) fewest[set] = told;
        }
    }

    private static int value(BrokenLoaves x, int[] acts, int n) {
        if (acts.length == n) return go(x, acts)[0];
        int value = acts.length % 2 == 0 ? -1 : 99999;
        for (int act = 0; act <= people; act++) {
            int v = value(x, with(acts, act), n);
            value = acts.length % 2 == 0 ? Math.max(value, v) : Math.min(value, v);
        }
        return value;
    }

    /** Each is asked of an object that was asked nothing else. */
    private static void asTheFirstCall() {
        Check.due("24 best", Check.five().best(2), 55);
        Check.due("25 ith", Check.five().ith(2, 0), 5);
        Check.due("26 ways", Check.five().ways(2), 1);
        Check.due("27 feast", Check.five().feast(2, 8), 2);
        Check.due("28 bars", Check.five().bars(1, 31), 2);
        Check.due("28 bars", Check.five().bars(2, 16), -3);
        Check.due("29 game", Check.five().game(2), 28);
        Check.due("30 play", Check.five().play(2), 5);
        Check.due("38 prove", Check.five().prove(2), 2);
    }

    /** On day 1 the other one pays 1 for a pass, so that the tramp is 2 less strange on day 2. */
    private static void aGameInWhichNoneIsNotBest() {
        BrokenLoaves x = new BrokenLoaves();
        x.person(1, 60, 9, 0);
        Check.rules(x, "tramp if day = 1 pass;");
        Check.due("29 18", x.game(1), 18);
        Check.due("29 18 and 0", x.game(2), 18);
        Check.due("29 18 and 1 and 14", x.game(3), 33);
        Check.due("30 break", x.play(3), 1);
        x.day();
        x.change(0, 4, 0);
        Check.due("29 from day 1: 1, then 0", x.game(2), 1);
        Check.due("29 0, 0, 18 is more than 1, 0, 16", x.game(3), 18);
        Check.due("30 none", x.play(3), 0);
        byRealDays(x, "tramp if day = 2 or day = 4 pass; tramp if day = 3 shut;");
    }

    private static void nearTheEnd() {
        BrokenLoaves x = Check.five();
        x.ends(2);
        Check.due("24 two days are left", x.best(4), x.best(2));
        Check.due("26 two days are left", x.ways(4), x.ways(2));
        Check.due("25 second", x.ith(4, 1), x.ith(2, 1));
        Check.due("25 no third", x.ith(4, 2), -3);
        Check.due("27 three can't be", x.feast(4, 7), -3);
        Check.due("29 two days are left", x.game(4), x.game(2));
        Check.due("38 two rows", x.prove(4), 2);
        x.day();
        x.day();
        Check.due("24 over", x.best(4), 0);
        Check.due("26 over", x.ways(4), 1);
        Check.due("25 over", x.ith(4, 0), -3);
        Check.due("27 over: who is fed is fed", x.feast(4, x.state(5)), 0);
        Check.due("27 over: who is not", x.feast(4, 31), -3);
        Check.due("28 over", x.bars(4, 31), 2);
        Check.due("29 over", x.game(1), 0);
        Check.due("30 over", x.play(1), -3);
        Check.due("30 bad ahead of none", x.play(0), -1);
        Check.due("38 over", x.prove(4), 0);
    }

    private static void wrongInputs() {
        BrokenLoaves x = Check.five();
        for (int n : new int[] {-1, 5, Integer.MIN_VALUE, Integer.MAX_VALUE}) {
            Check.due("24 n", x.best(n), -1);
            Check.due("25 n", x.ith(n, 0), -1);
            Check.due("26 n", x.ways(n), -1);
            Check.due("27 n", x.feast(n, 0), -1);
            Check.due("28 n", x.bars(n, 0), -1);
            Check.due("29 n", x.game(n), -1);
            Check.due("30 n", x.play(n), -1);
            Check.due("38 n", x.prove(n), -1);
        }
        Check.due("29 n 0", x.game(0), -1);
        Check.due("30 n 0", x.play(0), -1);
        Check.due("25 i -1", x.ith(4, -1), -1);
        Check.due("25 i 4", x.ith(4, 4), -1);
        Check.due("27 set -1", x.feast(4, -1), -1);
        Check.due("27 set 32", x.feast(4, 32), -1);
        Check.due("28 set -1", x.bars(4, -1), -1);
        Check.due("28 set 32", x.bars(4, 32), -1);
    }

    private static void rows() {
        BrokenLoaves x = Check.five();
        Check.due("41 no rows", x.judge(), 0);
        Check.due("39 none", x.row(0, 0), -9);
        Check.due("40 none", x.alterRow(0, 0, 1), -9);
        Check.due("38 prove", x.prove(3), 3);
        Check.due("51 rows", x.many(4), 3);
        int worth = x.best(3);
        int[] ith = {x.ith(3, 0), x.ith(3, 1), x.ith(3, 2)};
        x.sheet(0, 0, 1);
        x.keep();
        for (int k = 0; k < 3; k++) {
            Check.due("39 act", x.row(k, 0), ith[k]);
            x.write(0, 0, ith[k]);
            int is = x.goAll(0, 0, 1);
            Check.due("39 worth", x.row(k, 1), is);
            Check.due("39 fed", x.row(k, 2), x.state(5));
            worth -= is;
        }
        Check.due("39 worth of all", worth, 0);
        x.again();
        for (int[] wrong : new int[][] {{-1, 0}, {3, 0}, {0, -1}, {0, 3}}) {
            Check.due("39 none such", x.row(wrong[0], wrong[1]), -9);
            Check.due("40 none such", x.alterRow(wrong[0], wrong[1], 5), -9);
        }
        int fed = x.row(2, 2);
        Check.due("40 was", x.alterRow(2, 2, -77), fed);
        Check.due("39 any number", x.row(2, 2), -77);
        Check.due("38 refused", x.prove(5), -1);
        Check.due("39 stays", x.row(2, 2), -77);
        Check.due("38 anew", x.prove(1), 1);
        Check.due("39 no more", x.row(1, 0), -9);
        Check.due("38 no days", x.prove(0), 0);
        Check.due("51 no rows", x.many(4), 0);
    }

    private static void judging() {
        BrokenLoaves x = Check.five();
        x.prove(4);
        Check.due("41 right", x.judge(), 0);
        for (int k = 0; k < 4; k++) {
            for (int what = 0; what < 3; what++) {
                int[] wrong = what == 0 ? new int[] {-1, 6, 0, Integer.MAX_VALUE} : new int[] {-1, 99};
                for (int v : wrong) {
                    int old = x.alterRow(k, what, v);
                    Check.due("41 row " + k + " " + what + " is " + v, x.judge(), k + 1);
                    x.alterRow(k, what, old);
                }
            }
        }
        Check.due("41 right again", x.judge(), 0);
        x.alterRow(3, 1, 0);
        x.alterRow(1, 1, 0);
        Check.due("41 the first one", x.judge(), 2);
        x.prove(4);
        x.ends(3);
        Check.due("41 the fourth is over", x.judge(), 4);
        x.ends(12);
        x.house(0, 9);
        Check.due("41 from how it is now", x.judge(), 1);
        // another plan, written into the rows, is as right
        x = new BrokenLoaves();
        x.person(2, 60, 4, 0);
        x.prove(2);
        Check.due("40 act", x.alterRow(0, 0, 0), 1);
        x.alterRow(0, 1, 0);
        Check.due("40 second", x.alterRow(1, 1, 7), 5);
        Check.due("41 a plan that is not best", x.judge(), 0);
    }

    private static void askingChangesNothing() {
        BrokenLoaves x = crowd();
        x.day();
        String before = Check.portrait(x);
        x.best(4);
        x.ith(4, 2);
        x.ways(4);
        x.feast(4, 3);
        x.bars(4, 63);
        x.game(4);
        x.play(4);
        x.judge();
        x.prove(9);
        x.alterRow(0, 0, 0);
        Check.same("24 to 30", Check.portrait(x), before);
    }
}

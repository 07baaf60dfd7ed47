/** Promises 31 to 37: reports, strangers, lots. */
public final class StrangersTest {
    public static void main(String[] args) {
        reports();
        whoFits();
        courses();
        eachKind();
        liars();
        lots();
        times();
        refusalsChangeNothing();
        Check.finish();
    }

    private static void reports() {
        BrokenLoaves x = new BrokenLoaves();
        int[][] wrong = {{-1, 0, 0, 1}, {16, 0, 0, 1}, {0, -1, 0, 1}, {0, 2, 0, 1}, {0, 0, -1, 1}, {0, 0, 0, 1000}, {0, 0, 5, 4},
            {0, 1, -1, 1}, {0, 1, 0, 10}, {0, 1, 5, 4}, {0, 1, 10, 10}, {0, 0, 1000, 1000}, {0, 0, 0, -1}};
        for (int[] w : wrong) Check.due("31 wrong", x.report(w[0], w[1], w[2], w[3]), -1);
        Check.due("31 none", x.many(3), 0);
        Check.due("31 edges", x.report(15, 0, 0, 999), 0);
        Check.due("31 edges", x.report(0, 1, 0, 9), 1);
        Check.due("31 one number", x.report(0, 1, 9, 9), 2);
        for (int r = 3; r < 6; r++) Check.due("31 number", x.report(1, 0, 0, 999), r);
        Check.due("31 full", x.report(1, 0, 0, 999), -2);
        Check.due("31 bad ahead of full", x.report(16, 0, 0, 999), -1);
        Check.due("51 reports", x.many(3), 6);
        Check.due("32 forget", x.forget(), 6);
        Check.due("32 none", x.forget(), 0);
        Check.due("51 none", x.many(3), 0);
        Check.due("31 from 0 again", x.report(1, 0, 0, 999), 0);
    }

    private static void whoFits() {
        BrokenLoaves x = new BrokenLoaves();
        Check.due("33 all", x.tales(0), 500);
        Check.due("33 least kind", x.tales(1), 1);
        Check.due("33 least tale", x.tales(2), 0);
        Check.due("33 least snow", x.tales(3), 0);
        Check.due("33 what -1", x.tales(-1), -1);
        Check.due("33 what 4", x.tales(4), -1);
        x.report(0, 1, 3, 4);
        Check.due("33 snow ahead of all days", x.tales(0), 100);
        Check.due("33 snow", x.tales(3), 3);
        x.report(0, 0, 12, 12);
        Check.due("33 loaf 12 then", x.tales(0), 100);
        // day 0 snows 1, so 4 or 5: 12 + strange - 1 - 1 = 28 is strange 18: a tramp with tale 9
        x.report(1, 0, 28, 28);
        Check.due("33 a tramp", x.tales(0), 2);
        Check.due("33 kind", x.tales(1), 1);
        Check.due("33 tale", x.tales(2), 9);
        Check.due("33 snow", x.tales(3), 3);
        x.report(0, 0, 13, 999);
        Check.due("33 no one", x.tales(0), 0);
        for (int what = 1; what <= 3; what++) Check.due("33 none", x.tales(what), -3);
        Check.due("33 bad ahead of none", x.tales(4), -1);
        Check.due("34 liar", x.liar(), 3);
    }

    /** How many strangers leave so much, behind so many days; the whole course of one is told by the model test. */
    private static void courses() {
        BrokenLoaves x = new BrokenLoaves();
        for (int d = 0; d < 16; d++) x.weather(d, 3);
        x.report(0, 1, 0, 0);
        // odd days bring nothing; behind day 0 a bishop with 9 is strange 14, behind day 2 14 - 2, behind day 4 14 - 4
        x.report(1, 0, 25, 25);
        Check.due("33 14 - 1", x.tales(0), 2);
        Check.due("33 a tramp with 7 first", x.tales(1), 1);
        x.report(2, 0, 24, 24);
        Check.due("33 nobody on odd days", x.tales(0), 2);
        x.report(5, 0, 24 + 12 - 2 + 10 - 1, 24 + 12 - 2 + 10 - 1);
        Check.due("33 both come the less strange", x.tales(0), 2);
        x.forget();
        x.report(0, 1, 0, 0);
        // a double is 9 on day 2 (less 2, having come once), 4 (tale 9) on days 0 and 4
        x.report(3, 0, 12 + 4 - 1 - 1 + 7 - 1, 12 + 4 - 1 - 1 + 7 - 1);
        x.report(5, 0, 20 - 1 + 0 - 1, 20 - 1 + 0 - 1);
        Check.due("33 doubles with 8 and 9", x.tales(0), 2);
        Check.due("33 double", x.tales(1), 5);
        Check.due("33 with 8", x.tales(2), 8);
        x.forget();
        // END and people, gates and rules count nothing
        x.ends(1);
        x.person(1, 0, 9, 0);
        x.gate(0, 0, 9);
        Check.rules(x, "person shut;");
        x.day();
        x.report(15, 1, 9, 9);
        Check.due("33 beyond the end", x.tales(0), 50);
        x.forget();
        for (int d = 0; d < 16; d++) x.weather(d, 12);
        x.report(1, 1, 3, 3);
        Check.due("33 by weather as it is", x.tales(0), 50);
        Check.due("33 snow at first", x.tales(3), 0);
        x.forget();
        x.report(15, 0, 0, 0);
        x.report(1, 0, 0, 8);
        // nobody strange: 12 - 1 - 1 with snow 3 .. 5, 12 - 1 - 2 with 6 to 8, 12 - 1 - 3 with 9
        Check.due("33 snow eats a third", x.tales(3), 6);
    }

    /** So strange on day 0, by weather that does nothing, is first of all that kind with that tale. */
    private static void eachKind() {
        int[][] least = {{1, 0, 0}, {1, 9, 18}, {2, 0, 3}, {2, 8, 11}, {3, 8, 13}, {4, 2, 1}};
        for (int[] l : least) {
            BrokenLoaves x = new BrokenLoaves();
            for (int d = 0; d < 16; d++) x.weather(d, 3);
            x.report(0, 1, 1, 1);
            x.report(1, 0, 11 + l[2], 11 + l[2]);
            Check.due("33 kind of strange " + l[2], x.tales(1), l[0]);
            Check.due("33 tale of strange " + l[2], x.tales(2), l[1]);
            Check.due("33 snow of strange " + l[2], x.tales(3), 1);
        }
        BrokenLoaves x = new BrokenLoaves();
        x.report(0, 1, 0, 0);
        // behind day 0 an old friend of tale 0 brings nothing, nor does a tramp, or a double: snow 1, 12 - 1
        x.report(1, 0, 11, 11);
        x.report(2, 0, 10, 10);
        x.report(3, 0, 8, 8);
        Check.due("33 tramp with 0, friends with 0 and 1", x.tales(0), 3);
        Check.due("34 some fit", x.liar(), -3);
        x.report(0, 1, 0, 0);
        x.report(4, 0, 0, 6);
        Check.due("33 they stay", x.tales(0), 3);
    }

    private static void liars() {
        BrokenLoaves x = new BrokenLoaves();
        Check.due("34 no reports", x.liar(), -3);
        x.report(0, 0, 12, 12);
        Check.due("34 some fit", x.liar(), -3);
        x.report(0, 1, 2, 2);
        x.report(0, 1, 5, 5);
        Check.due("34 the least of two", x.liar(), 1);
        x.report(0, 1, 5, 9);
        Check.due("34 the odd one", x.liar(), 1);
        x.report(0, 1, 7, 9);
        Check.due("34 no one alone", x.liar(), -3);
        x.forget();
        x.report(3, 0, 999, 999);
        Check.due("34 the only one", x.liar(), 0);
    }

    private static void lots() {
        BrokenLoaves x = Check.five();
        Check.due("35 was", x.seed(-5), 1);
        Check.due("35 any number", x.seed(Integer.MIN_VALUE), -5);
        Check.due("35 low", x.seed(77), Integer.MIN_VALUE);
        x.sheet(0, 0, 1);
        int z = 77;
        for (int d = 0; d < 12; d++) {
            z = z * 1103515245 + 12345;
            x.write(0, 0, (z >>> 16) % 6);
            int due = x.wouldBe(0, 0, 1);
            int score = x.state(2);
            Check.due("36 lot", x.lot(), due);
            Check.due("36 day", x.state(0), d + 1);
            Check.due("36 score", x.state(2), score + due);
        }
        Check.due("36 over", x.lot(), -4);
        Check.due("36 z stays then", x.seed(3), z);
    }

    private static void times() {
        BrokenLoaves x = Check.five();
        x.day();
        for (int[] wrong : new int[][] {{0, 0}, {41, 0}, {-1, 0}, {1, -1}, {1, 1000}}) {
            Check.due("37 wrong", x.times(wrong[0], wrong[1]), -1);
        }
        Check.due("37 all", x.times(40, 0), 40);
        Check.due("37 none", x.times(40, 999), 0);
        x.seed(4242);
        int[] worth = new int[40];
        x.keep();
        int z = 4242;
        for (int t = 0; t < 40; t++) {
            x.again();
            x.seed(z);
            while (x.state(3) == 0) worth[t] += x.lot();
            z = x.seed(0);
        }
        x.again();
        for (int v = 0; v <= 140; v += 7) {
            for (int n : new int[] {1, 2, 17, 40}) {
                int due = 0;
                for (int t = 0; t < n; t++) if (worth[t] >= v) due++;
                Check.due("37 times " + n + " " + v, x.times(n, v), due);
            }
        }
        Check.due("37 z is as it was", x.seed(1), 4242);
        Check.due("37 day is as it was", x.state(0), 1);
        x.ends(1);
        Check.due("37 over, 0", x.times(3, 0), 3);
        Check.due("37 over, 1", x.times(3, 1), 0);
    }

    private static void refusalsChangeNothing() {
        BrokenLoaves x = Check.five();
        x.report(2, 0, 15, 40);
        x.ends(1);
        x.day();
        x.seed(8);
        String before = Check.portrait(x);
        x.report(16, 0, 0, 1);
        x.report(1, 0, 2, 1);
        x.tales(4);
        x.lot();
        x.times(41, 0);
        x.times(7, 9);
        x.liar();
        Check.same("31 to 37", Check.portrait(x), before);
    }
}

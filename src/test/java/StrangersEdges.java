/** Boundaries of promises 31 to 37: reports, strangers, lots. */
final class StrangersEdges extends Edge {
    void all() {
        report();
        whatWasReported();
        forget();
        tales();
        strangers();
        howTheyCome();
        liar();
        seed();
        lot();
        times();
        timesFromNow();
    }

    private static BrokenLoaves reports(int count) {
        BrokenLoaves x = Roads.still();
        for (int r = 0; r < count; r++) x.report(0, 1, 0, 9);
        return x;
    }

    private void report() {
        says(31, "behind k DAYS (0 to 15;", () -> range(0, 15, BUSY, (x, v) -> x.report(v, 0, 0, 999)));
        says(31, "LOAF (asked 0; 0 to 999), or SNOW (1; 0 to 9)", () -> {
            range(0, 1, BUSY, (x, v) -> x.report(0, v, 0, 9));
            range(0, 999, BUSY, (x, v) -> x.report(0, 0, v, 999));
            range(0, 999, BUSY, (x, v) -> x.report(0, 0, 0, v));
            range(0, 9, BUSY, (x, v) -> x.report(0, 1, v, 9));
            range(0, 9, BUSY, (x, v) -> x.report(0, 1, 0, v));
            range(0, 999, BUSY, (x, v) -> x.report(0, 0, v, v));
            range(0, 9, BUSY, (x, v) -> x.report(0, 1, v, v));
        });
        says(31, "BAD: also MOST below LEAST", () -> {
            for (int least : new int[] {1, 5, 9}) {
                for (int asked = 0; asked <= 1; asked++) {
                    int of = asked;
                    is("as much", EMPTY.make().report(0, asked, least, least), 0);
                    is("1 more", EMPTY.make().report(0, asked, least - 1, least), 0);
                    refuses(BAD, BUSY, x -> x.report(0, of, least, least - 1));
                    refuses(BAD, BUSY, x -> x.report(0, of, least, 0));
                }
            }
            refuses(BAD, BUSY, x -> x.report(0, 0, 999, 998));
        });
        says(31, "A REPORT (6 at most)", () -> {
            for (int r = 0; r < 6; r++) {
                is("its number", reports(r).report(0, 0, 0, 999), r);
                is("many REPORTS", reports(r).many(3), r);
            }
            refuses(FULL, CROWDED, x -> x.report(0, 0, 0, 999));
            refuses(FULL, () -> reports(6), x -> x.report(0, 1, 9, 9));
        });
        says(31, "BAD: also MOST below LEAST; FULL.", () -> {
            refuses(BAD, CROWDED, x -> x.report(0, 0, 1, 0));
            refuses(BAD, CROWDED, x -> x.report(16, 0, 0, 1));
            refuses(BAD, CROWDED, x -> x.report(-1, 0, 0, 1));
            refuses(BAD, CROWDED, x -> x.report(0, 2, 0, 1));
            refuses(BAD, CROWDED, x -> x.report(0, 1, 0, 10));
        });
    }

    private static int fitting(int[]... reports) {
        BrokenLoaves x = Roads.still();
        for (int[] r : reports) x.report(r[0], r[1], r[2], r[3]);
        return x.tales(0);
    }

    private void whatWasReported() {
        says(31, "was from LEAST to MOST", () -> {
            for (int least = 0; least <= 9; least++) {
                for (int most = least; most <= 9; most++) is(least + " to " + most, fitting(new int[] {0, 1, least, most}), 50 * (most - least + 1));
            }
            is("LOAF just so", fitting(new int[] {0, 0, 12, 12}), 500);
            is("at the most", fitting(new int[] {0, 0, 0, 12}), 500);
            is("at the least", fitting(new int[] {0, 0, 12, 999}), 500);
            is("1 above it", fitting(new int[] {0, 0, 13, 999}), 0);
            is("1 below it", fitting(new int[] {0, 0, 0, 11}), 0);
        });
        says(31, "from DAY 0 on, LOAF 12 then", () -> {
            BrokenLoaves x = BUSY.make();
            x.forget();
            x.house(1, 500);
            x.house(0, 7);
            x.report(0, 0, 12, 12);
            is("whatever LOAF, SNOW and DAY are now", x.tales(0), 500);
            x.ends(x.state(0));
            is("OVER, too", x.tales(0), 500);
        });
        says(31, "behind k DAYS", () -> {
            for (int k = 0; k <= 15; k++) {
                for (int day = 0; day <= 15; day++) {
                    BrokenLoaves x = Roads.still();
                    x.weather(day, 12);
                    x.report(0, 1, 0, 0);
                    x.report(k, 1, 3, 3);
                    is("it snows 3 on DAY " + day + ", behind " + k, x.tales(0), day < k ? 50 : 0);
                }
            }
        });
    }

    private void forget() {
        says(32, "There are no REPORTS: how many there were.", () -> {
            for (int r = 0; r <= 6; r++) {
                BrokenLoaves x = reports(r);
                is("there were", x.forget(), r);
                is("there are", x.many(3), 0);
                is("none to forget", x.forget(), 0);
                is("from 0 on again", x.report(0, 0, 13, 13), 0);
                is("the new one counts", x.tales(0), 0);
                x.forget();
                is("it does not any more", x.tales(0), 500);
            }
        });
    }

    private void tales() {
        says(33, "what = 0 how many", () -> range(0, 3, BUSY, (x, v) -> x.tales(v)));
        says(33, "BAD; NONE (of 1, 2, 3): there are none.", () -> {
            for (int what = 1; what <= 3; what++) {
                int of = what;
                Maker none = () -> {
                    BrokenLoaves x = UNTAPED.make();
                    x.report(0, 0, 0, 0);
                    return x;
                };
                refuses(NONE, none, x -> x.tales(of));
                asks(0, none, x -> x.tales(0));
                outside(0, 3, none, (x, v) -> x.tales(v));
            }
            outside(0, 3, BUSY, (x, v) -> x.tales(v));
            asks(BUSY, x -> x.tales(0));
            asks(BUSY, x -> x.tales(3));
        });
        says(33, "of that with the least KIND, of these the least TALE, of these the least SNOW: 1 KIND, 2 TALE, 3 SNOW", () -> {
            int[] first = {500, 1, 0, 0};
            for (int what = 0; what <= 3; what++) is("of all, " + what, new BrokenLoaves().tales(what), first[what]);
            // 14 on DAY 0: a tramp with 7 is less than a bishop with 9, though its TALE is less, too; 13: a bishop with 8 alone
            pinned(14, 0, 2, 1, 7);
            pinned(13, 0, 1, 3, 8);
            // 3: a pilgrim with 0 is less than a friend with 6; 12: tramp 6, pilgrim 9, bishop 7
            pinned(3, 0, 5, 2, 0);
            pinned(12, 0, 3, 1, 6);
            pinned(11, 0, 2, 2, 8);
        });
    }

    /** Strangers so strange on day 0 by so much snow: how many, and kind and tale of the first. */
    private static void pinned(int strange, int snow, int count, int kind, int tale) {
        BrokenLoaves x = Roads.still();
        x.report(0, 1, snow, snow);
        int loaf = 12 + strange - 1 - snow / 3;
        x.report(1, 0, loaf, loaf);
        int[] due = {count, kind, tale, count == 0 ? NONE : snow};
        for (int what = 0; what <= 3; what++) is("strange " + strange + ", SNOW " + snow + ", " + what, x.tales(what), due[what]);
    }

    private void strangers() {
        says(33, "A STRANGER is a KIND (1 to 5; its number 0), a TALE, and SNOW at first", () -> {
            is("5 by 10 by 10", new BrokenLoaves().tales(0), 500);
            for (int snow = 0; snow <= 9; snow++) {
                // a tramp with 9 is the strangest of all, a tramp with 0, friends and doubles with 0 and 1 the least strange
                pinned(18, snow, 1, 1, 9);
                pinned(0, snow, 5, 1, 0);
                pinned(19, snow, 0, NONE, NONE);
            }
        });
        says(33, "by WEATHER as it is", () -> {
            BrokenLoaves x = new BrokenLoaves();
            x.report(1, 1, 9, 9);
            is("it snows 1", x.tales(0), 100);
            is("8 at first", x.tales(3), 8);
            x.weather(0, 5);
            is("it thaws 1", x.tales(0), 0);
            x.weather(0, 14);
            is("it blows", x.tales(0), 0);
            x.weather(0, 12);
            is("it snows 3", x.tales(0), 200);
        });
    }

    /** LOAF of the first stranger that is so strange on day 0, behind k days of still weather and no snow, is so much and no other. */
    private static void course(int kind, int tale, int strange, int... loaves) {
        for (int k = 0; k < loaves.length; k++) {
            for (int more = -1; more <= 1; more++) {
                BrokenLoaves x = Roads.still();
                x.report(0, 1, 0, 0);
                x.report(1, 0, 11 + strange, 11 + strange);
                int loaf = loaves[k] + more;
                if (loaf < 0) continue;
                x.report(k, 0, loaf, loaf);
                boolean first = x.tales(0) > 0 && x.tales(1) == kind && x.tales(2) == tale;
                is("KIND " + kind + ", TALE " + tale + ": LOAF " + loaf + " behind " + k, first ? 1 : 0, more == 0 ? 1 : 0);
            }
        }
    }

    private void howTheyCome() {
        says(33, "on each even DAY, behind (1), LOAF is more by how STRANGE it is, less twice how often it has come (0 at least", () -> {
            // a tramp with 1 is strange 2, then 0, then not below 0
            course(1, 1, 2, 12, 13, 12, 11, 10, 9, 8, 7, 6, 5, 4, 3, 2, 1, 0, 0);
            // a tramp with 9: 18, 16, 14, 12, 10, 8, 6, 4 on days 0, 2, ..
            course(1, 9, 18, 12, 29, 28, 43, 42, 55, 54, 65, 64, 73, 72, 79, 78, 83, 82, 85);
        });
        says(33, "bishop: as pilgrim, and 2 on even DAYS", () -> {
            // with 8: 13, 11, 9, 7, 5, 3, 1, 0
            course(3, 8, 13, 12, 24, 23, 33, 32, 40, 39, 45, 44, 48, 47, 49, 48, 48, 47, 46);
        });
        says(33, "double: as friend, but 9 on DAYS that leave 2 by 3", () -> {
            // doubles come 0 strange on day 0 with 0 and 1; on day 2 they are 9 less 2, on day 8 9 less 8, on day 14 9 less 14
            BrokenLoaves x = Roads.still();
            x.report(0, 1, 0, 0);
            x.report(1, 0, 11, 11);
            x.report(3, 0, 10 + 7 - 1, 10 + 7 - 1);
            is("on DAY 2", x.tales(0), 2);
            is("doubles", x.tales(1), 5);
            // 16, 15, 14, 13, 12, 11 behind DAY 7, then 1 more and 1 less, then down to DAY 14
            x.report(9, 0, 11, 11);
            is("on DAY 8", x.tales(0), 2);
            x.report(15, 0, 5, 5);
            is("on DAY 14 nothing", x.tales(0), 2);
        });
        says(33, "no GATE, no NEED, it EATS nothing", () -> {
            BrokenLoaves x = Roads.still();
            for (int g = 0; g < 6; g++) {
                x.gate(g, 0, 9);
                x.gate(g, 1, 0);
            }
            Check.rules(x, "person shut;");
            x.report(0, 1, 9, 9);
            x.report(1, 0, 12 + 18 - 4, 12 + 18 - 4);
            is("by SNOW 9, from DUST 9, by RULES that shut it out", x.tales(0), 1);
        });
        says(33, "(3) LOAF is 1, and a third (cut) of SNOW less (0 at least)", () -> {
            // who brings nothing, by so much SNOW: a tramp with 0, friends with 0 and 1
            int[] less = {1, 1, 1, 2, 2, 2, 3, 3, 3, 4};
            for (int snow = 0; snow <= 9; snow++) {
                BrokenLoaves x = Roads.still();
                x.report(0, 1, snow, snow);
                int loaf = 12;
                for (int k = 1; k <= 5; k++) {
                    loaf = Math.max(0, loaf - less[snow]);
                    x.report(k, 0, loaf, loaf);
                }
                is("SNOW " + snow, x.tales(0), 3);
                is("with 0", x.tales(2), 0);
            }
        });
    }

    private void liar() {
        says(34, "LIAR: if none FITS, the least REPORT but for which some would.", () -> {
            for (int count = 2; count <= 6; count++) {
                for (int wrong = 0; wrong < count; wrong++) {
                    BrokenLoaves x = Roads.still();
                    for (int r = 0; r < count; r++) x.report(0, 1, r == wrong ? 5 : 2, r == wrong ? 5 : 2);
                    is("REPORT " + wrong + " of " + count, x.liar(), count == 2 ? 0 : wrong);
                }
            }
            BrokenLoaves x = Roads.still();
            x.report(0, 0, 13, 999);
            is("the only one", x.liar(), 0);
        });
        says(34, "NONE: some FIT; or there is no such REPORT.", () -> {
            refuses(NONE, EMPTY, BrokenLoaves::liar);
            refuses(NONE, BUSY, BrokenLoaves::liar);
            Maker twoWrong = () -> {
                BrokenLoaves x = UNTAPED.make();
                x.report(0, 0, 13, 999);
                x.report(0, 0, 0, 11);
                return x;
            };
            refuses(NONE, twoWrong, BrokenLoaves::liar);
            BrokenLoaves x = Roads.still();
            for (int r = 0; r < 6; r++) x.report(0, 1, r / 2, r / 2);
            is("three by two", x.liar(), NONE);
            x.forget();
            is("none at all", x.liar(), NONE);
        });
    }

    private void seed() {
        says(35, "z becomes v: what it was.", () -> {
            BrokenLoaves x = new BrokenLoaves();
            int was = 1;
            for (int v : new int[] {0, -1, Integer.MIN_VALUE, Integer.MAX_VALUE, 1, -5, -5}) {
                is("was", x.seed(v), was);
                was = v;
            }
        });
    }

    private void lot() {
        says(36, "z (an int; 1 at first) becomes z * 1103515245 + 12345", () -> {
            int[] seeds = {0, 1, -1, Integer.MIN_VALUE, Integer.MAX_VALUE, 77, 1 << 30, -(1 << 30)};
            int[] next = {12345, 1103527590, -1103502900, -2147471303, 1043980748, 0, 0, 0};
            next[5] = (int) (77L * 1103515245L + 12345L);
            next[6] = (int) ((1L << 30) * 1103515245L + 12345L);
            next[7] = (int) (-(1L << 30) * 1103515245L + 12345L);
            for (int i = 0; i < seeds.length; i++) {
                BrokenLoaves x = new BrokenLoaves();
                x.seed(seeds[i]);
                is("nobody", x.lot(), 0);
                is("from " + seeds[i], x.seed(0), next[i]);
            }
        });
        says(36, "the ACT in it is what z >>> 16 leaves by how many PEOPLE there are and 1", () -> {
            for (int count = 0; count <= 6; count++) {
                for (int seed = -20; seed <= 20; seed++) {
                    BrokenLoaves x = Roads.still();
                    for (int k = 0; k < count; k++) x.person(2, 0, 0, 0);
                    x.seed(seed);
                    long z = (seed * 1103515245L + 12345L) & 0xffffffffL;
                    int act = (int) ((z >> 16) % (count + 1));
                    is("WORTH, seed " + seed, x.lot(), act == 0 ? 0 : 12);
                    is("who of " + count + " was told, seed " + seed, x.state(4), act == 0 ? 0 : 1 << (act - 1));
                    is("a DAY went by", x.state(0), 1);
                }
            }
        });
        says(36, "STATE: it is OVER.", () -> {
            refuses(STATE, OVER, BrokenLoaves::lot);
            BrokenLoaves x = new BrokenLoaves();
            x.ends(2);
            x.lot();
            is("the last DAY", x.lot(), 0);
            int z = x.seed(9);
            is("OVER", x.lot(), STATE);
            is("z stays", x.seed(z), 9);
            is("DAY stays", x.state(0), 2);
        });
    }

    private void times() {
        says(37, "How many of n (1 to 40) times", () -> {
            range(1, 40, BUSY, (x, v) -> x.times(v, 5));
            for (int n = 1; n <= 40; n++) {
                is("all", BUSY.make().times(n, 0), n);
                is("none", BUSY.make().times(n, 999), 0);
            }
        });
        says(37, "are WORTH v (0 to 999) or more", () -> {
            range(0, 999, BUSY, (x, v) -> x.times(3, v));
            BrokenLoaves x = Check.five();
            int worth = 0;
            for (int d = 0; d < 12; d++) worth += x.lot();
            is("as much", Check.five().times(1, worth), 1);
            is("1 less", Check.five().times(1, worth - 1), 1);
            is("1 more", Check.five().times(1, worth + 1), 0);
        });
        says(37, "BAD.", () -> {
            outside(1, 40, OVER, (x, v) -> x.times(v, 0));
            outside(0, 999, OVER, (x, v) -> x.times(1, v));
        });
        says(37, "(all is as it was in the end, z, too)", () -> {
            asks(BUSY, x -> x.times(40, 20));
            asks(CROWDED, x -> x.times(1, 0));
        });
    }

    private void timesFromNow() {
        says(37, "all DAYS yet by LOT, each from how it is now (z goes on from one to the next)", () -> {
            int[] worth = new int[40];
            int z = 1;
            for (int t = 0; t < 40; t++) {
                BrokenLoaves x = Check.five();
                x.day();
                x.seed(z);
                for (int d = 1; d < 12; d++) worth[t] += x.lot();
                z = x.seed(0);
            }
            for (int n = 1; n <= 40; n++) {
                int enough = 0;
                for (int t = 0; t < n; t++) if (worth[t] >= worth[n - 1]) enough++;
                BrokenLoaves x = Check.five();
                x.day();
                is("of " + n, x.times(n, worth[n - 1]), enough);
            }
        });
        says(37, "all DAYS yet", () -> {
            is("OVER: nothing is WORTH 0", OVER.make().times(40, 0), 40);
            is("and not 1", OVER.make().times(40, 1), 0);
        });
    }
}

/** Boundaries of promises 15 to 23: days, bakeries, winters, tables, rounds. */
final class DaysEdges extends Edge {
    void all() {
        day();
        gatesBySnow();
        breaking();
        feeding();
        passAndShut();
        behindTheDay();
        theRest();
        on();
        when();
        taleFor();
        gateFor();
        bakery();
        winter();
        tables();
        rounds();
        roundsInRows();
    }

    private void day() {
        says(15, "STATE: it is OVER.", () -> {
            refuses(STATE, OVER, BrokenLoaves::day);
            refuses(STATE, () -> Roads.goneBy(new BrokenLoaves(), 16), BrokenLoaves::day);
            for (int end = 1; end <= 16; end++) {
                BrokenLoaves x = new BrokenLoaves();
                x.ends(end);
                for (int d = 0; d < end; d++) is("DAY " + d + " of " + end, x.day(), 0);
                is("OVER", x.day(), STATE);
                is("DAY", x.state(0), end);
            }
        });
        says(15, "A DAY goes by as in THE REST: what it was WORTH.", () -> {
            BrokenLoaves x = Roads.one(1, 30, 9);
            is("18, and 9", x.day(), 27);
            is("SCORE", x.state(2), 27);
            is("nobody is left", x.day(), 0);
            is("SCORE stays", x.state(2), 27);
        });
        says(15, "DAY is 1 more.", () -> {
            BrokenLoaves x = Check.five();
            for (int d = 0; d < 12; d++) {
                is("DAY", x.state(0), d);
                x.day();
            }
            is("DAY", x.state(0), 12);
        });
    }

    private void gatesBySnow() {
        says(15, "SNOW is no more than its GATE TAKES", () -> {
            for (int takes = 0; takes <= 9; takes++) {
                for (int snow = 0; snow <= 9; snow++) {
                    BrokenLoaves x = Roads.one(1, 60, 9);
                    x.gate(0, 1, takes);
                    x.house(0, snow);
                    is("TAKES by " + takes + ", SNOW " + snow, Roads.go(x, 1), snow <= takes ? 18 : 0);
                    is("MET", x.personOf(0, 4), snow <= takes ? 1 : 0);
                }
            }
        });
        says(15, "(1) by its WEATHER SNOW is more", () -> {
            int[][] cases = {{4, 4, 18}, {5, 4, 0}, {6, 5, 18}, {7, 5, 0}, {8, 14, 18}, {9, 14, 0}};
            for (int[] c : cases) {
                BrokenLoaves x = Roads.one(1, 60, 9);
                x.house(0, c[0]);
                x.weather(0, c[1]);
                is("SNOW " + c[0] + " by WEATHER " + c[1] + ", TAKES by 5", Roads.go(x, 1), c[2]);
            }
        });
    }

    private void breaking() {
        says(15, "break: MET is 1 more (9 held)", () -> {
            for (int met = 0; met <= 9; met++) {
                BrokenLoaves x = Roads.one(1, 60, 9);
                x.change(0, 4, met);
                Roads.go(x, 1);
                is("from " + met, x.personOf(0, 4), met < 9 ? met + 1 : 9);
            }
        });
        says(15, "LOAF is as much more as it was STRANGE STILL ahead of that (999 held), that is WORTH as much", () -> {
            for (int met = 0; met <= 9; met++) {
                BrokenLoaves x = Roads.one(1, 60, 9);
                x.gate(0, 0, 1);
                x.change(0, 4, met);
                int strange = met == 9 ? 1 : 19 - 2 * met;
                is("WORTH, MET " + met, Roads.go(x, 1), strange);
                is("LOAF, MET " + met, x.state(8), 12 + strange - 1);
            }
        });
        says(15, "(999 held)", () -> {
            // a tramp with number 0 eats 3, and the day 1
            int[][] cases = {{980, 994}, {981, 995}, {982, 995}, {998, 995}, {999, 995}};
            for (int[] c : cases) {
                BrokenLoaves x = Roads.one(1, 60, 9);
                x.house(1, c[0]);
                is("WORTH from " + c[0], Roads.go(x, 1), 27);
                is("LOAF from " + c[0], x.state(8), c[1]);
            }
        });
    }

    private void feeding() {
        says(15, "if LOAF is then as much as its NEED, or more: 9 more, if it was not FED", () -> {
            for (int need = 29; need <= 31; need++) {
                BrokenLoaves x = Roads.one(1, need, 9);
                boolean fed = need <= 30;
                is("WORTH, NEED " + need, Roads.go(x, 1), fed ? 27 : 18);
                is("FED, NEED " + need, x.personOf(0, 5), fed ? 1 : 0);
                is("LOAF, NEED " + need, x.state(8), fed ? 26 : 29);
            }
            BrokenLoaves x = Roads.one(1, 0, 0);
            x.house(1, 0);
            is("NEED 0, LOAF 0", Roads.go(x, 1), 9);
            x = Roads.one(1, 60, 9);
            x.house(1, 42);
            is("NEED 60, LOAF 42 and 18", Roads.go(x, 1), 27);
        });
        says(15, "if it was not FED", () -> {
            BrokenLoaves x = Roads.one(1, 30, 9);
            x.change(0, 5, 1);
            is("FED already", Roads.go(x, 1), 18);
            is("it EATS again", x.state(8), 26);
            is("FED still", x.personOf(0, 5), 1);
            x.change(0, 1, 60);
            is("below its NEED", Roads.go(x, 1), 16);
            is("it EATS nothing", x.state(8), 26 + 16 - 1);
            is("FED still", x.personOf(0, 5), 1);
        });
        says(15, "LOAF is what it EATS less (0 at least)", () -> {
            // a bishop that is not strange any more eats 7, then the day takes 1
            for (int loaf = 0; loaf <= 10; loaf++) {
                BrokenLoaves x = Roads.one(3, 0, 0);
                x.change(0, 4, 9);
                x.house(1, loaf);
                is("WORTH", Roads.go(x, 1), 9);
                is("LOAF from " + loaf, x.state(8), loaf <= 8 ? 0 : loaf - 8);
            }
        });
    }

    private void passAndShut() {
        says(15, "pass: MET is 1 more (9 held), WORTH 1.", () -> {
            for (int met = 0; met <= 9; met++) {
                BrokenLoaves x = Roads.one(1, 0, 9);
                Check.rules(x, "tramp pass;");
                x.change(0, 4, met);
                is("WORTH", Roads.go(x, 1), 1);
                is("MET from " + met, x.personOf(0, 4), met < 9 ? met + 1 : 9);
                is("LOAF is less by the DAY alone", x.state(8), 11);
                is("not FED", x.personOf(0, 5), 0);
            }
        });
        says(15, "shut: nothing.", () -> {
            BrokenLoaves x = Roads.one(1, 0, 9);
            Check.rules(x, "tramp shut;");
            is("WORTH", Roads.go(x, 1), 0);
            is("MET", x.personOf(0, 4), 0);
            is("FED", x.personOf(0, 5), 0);
            is("LOAF", x.state(8), 11);
            is("the DAY goes by", x.state(0), 1);
        });
    }

    private void behindTheDay() {
        says(15, "(3) LOAF is 1, and a third (cut) of SNOW less (0 at least).", () -> {
            int[] less = {1, 1, 1, 2, 2, 2, 3, 3, 3, 4};
            for (int snow = 0; snow <= 9; snow++) {
                for (int loaf : new int[] {0, 1, 2, 3, 4, 5, 999}) {
                    BrokenLoaves x = Roads.still();
                    x.house(0, snow);
                    x.house(1, loaf);
                    x.day();
                    is("LOAF " + loaf + ", SNOW " + snow, x.state(8), loaf < less[snow] ? 0 : loaf - less[snow]);
                }
            }
        });
        says(15, "a third (cut) of SNOW", () -> {
            BrokenLoaves x = new BrokenLoaves();
            x.house(0, 2);
            x.day();
            is("SNOW 3, behind (1)", x.state(8), 10);
        });
    }

    private void theRest() {
        says(15, "LOAF, and how STRANGE it is STILL are together as much as its NEED, or more", () -> {
            is("just as much", Roads.one(1, 30, 9).day(), 27);
            is("1 more", Roads.one(1, 29, 9).day(), 27);
            is("1 less", Roads.one(1, 31, 9).day(), 0);
            BrokenLoaves x = Roads.one(1, 31, 9);
            x.day();
            is("it is not told then", x.personOf(0, 4), 0);
            x.gate(0, 0, 2);
            is("11 and 20", x.day(), 29);
            x = Roads.one(1, 29, 9);
            x.change(0, 4, 1);
            is("12 and 16", x.day(), 0);
        });
        says(15, "the least PERSON being told that is not FED", () -> {
            BrokenLoaves x = Roads.still();
            for (int k = 0; k < 6; k++) x.person(1, 0, 9, 0);
            for (int k = 0; k < 6; k++) {
                x.day();
                is("FED behind DAY " + k, x.state(5), (1 << (k + 1)) - 1);
            }
            is("none, if all are", x.day(), 0);
            x = Roads.still();
            x.person(1, 60, 0, 0);
            x.person(1, 12, 0, 0);
            x.day();
            is("the first can't be FED, the second is", x.state(5), 2);
        });
        says(15, "whose GATE TAKES it by SNOW as it is", () -> {
            for (int takes = 5; takes <= 6; takes++) {
                BrokenLoaves x = new BrokenLoaves();
                x.person(1, 0, 9, 0);
                x.person(1, 0, 8, 1);
                x.house(0, 5);
                x.gate(0, 1, takes);
                x.gate(1, 1, 9);
                x.day();
                is("SNOW 6 behind (1), TAKES by " + takes, x.state(5), takes == 6 ? 1 : 2);
            }
        });
        says(15, "(none, if there is none)", () -> {
            BrokenLoaves x = new BrokenLoaves();
            is("nobody", x.day(), 0);
            is("LOAF", x.state(8), 11);
            is("SNOW", x.state(7), 1);
            x = Roads.one(1, 60, 0);
            is("nobody that can be FED", x.day(), 0);
            is("nobody is MET", x.state(4), 0);
        });
        says(15, "it does as its WILL is", () -> {
            BrokenLoaves x = Roads.still();
            x.person(1, 0, 9, 0);
            x.person(2, 0, 9, 0);
            Check.rules(x, "tramp shut;");
            is("the least is told, and shut out", x.day(), 0);
            is("nobody else is told", x.state(4), 0);
        });
    }

    private void on() {
        says(16, "What n (0 to 16) DAYS of THE REST (fewer, if it is OVER) are WORTH.", () -> {
            range(0, 16, BUSY, (x, v) -> x.on(v));
            for (int n = 0; n <= 16; n++) {
                BrokenLoaves x = Roads.one(1, 30, 9);
                x.person(1, 44, 9, 0);
                x.ends(n % 2 == 0 ? 16 : 2);
                // 26 behind DAY 0, then 26 + 18 is as much as 44
                is("n " + n, x.on(n), n == 0 ? 0 : n == 1 ? 27 : 54);
            }
        });
        says(16, "(fewer, if it is OVER)", () -> {
            for (int n = 0; n <= 16; n++) is("OVER", OVER.make().on(n), 0);
            for (int end = 1; end <= 4; end++) {
                BrokenLoaves x = Roads.still();
                for (int k = 0; k < 6; k++) x.person(2, 0, 0, 0);
                x.ends(end);
                for (int n = 0; n <= 16; n++) is(n + " DAYS, END " + end, x.on(n), 12 * Math.min(n, end));
            }
        });
        says(16, "What is asked changes nothing", () -> {
            for (int n : new int[] {0, 1, 16}) asks(BUSY, x -> x.on(n));
        });
    }

    /** A tramp that is shut out ahead of a day, told on each. */
    private static BrokenLoaves shutTill(int day, int end) {
        BrokenLoaves x = Roads.one(1, 0, 9);
        x.ends(end);
        Check.rules(x, "tramp if day<" + day + " shut;");
        return x;
    }

    private void when() {
        says(17, "The first DAY of THE REST behind which a PERSON is FED.", () -> {
            for (int day = 0; day < 16; day++) {
                is("DAY " + day, shutTill(day, 16).when(0), day);
                is("the last DAY", shutTill(day, day + 1).when(0), day);
            }
        });
        says(17, "NONE (also if it is now)", () -> {
            for (int day = 1; day < 16; day++) is("END ahead of DAY " + day, shutTill(day, day).when(0), NONE);
            refuses(NONE, BUSY, x -> x.when(0));
            refuses(NONE, OVER, x -> x.when(2));
            BrokenLoaves x = Roads.one(1, 0, 9);
            x.change(0, 5, 1);
            is("FED now", x.when(0), NONE);
            is("never", Roads.one(1, 60, 0).when(0), NONE);
        });
        says(17, "BAD; NONE", () -> {
            outside(0, 4, BUSY, (x, v) -> x.when(v));
            outside(0, 4, OVER, (x, v) -> x.when(v));
            refuses(BAD, EMPTY, x -> x.when(0));
            is("the sixth PERSON", CROWDED.make().when(5) == BAD ? 1 : 0, 0);
            refuses(BAD, CROWDED, x -> x.when(6));
        });
    }

    private void taleFor() {
        says(18, "TALE with which a PERSON makes THE REST WORTH most", () -> {
            for (int tale = 0; tale <= 9; tale++) {
                BrokenLoaves x = Roads.one(1, 0, 5);
                Check.rules(x, "tramp if not tale=" + tale + " shut;");
                is("only " + tale, x.taleFor(0), tale);
                is("TALE stays", x.personOf(0, 2), 5);
            }
            is("9, if more is better", Roads.one(2, 0, 0).taleFor(0), 9);
        });
        says(18, "of several the least", () -> {
            is("halves", Roads.one(4, 0, 9).taleFor(0), 8);
            BrokenLoaves x = Roads.one(1, 0, 5);
            x.change(0, 5, 1);
            is("all alike, FED", x.taleFor(0), 0);
            is("all alike, OVER", OVER.make().taleFor(4), 0);
            x = Roads.one(1, 0, 5);
            Check.rules(x, "tramp if tale<3 shut; tramp pass;");
            is("pass from 3 on", x.taleFor(0), 3);
        });
        says(18, "BAD.", () -> {
            outside(0, 4, BUSY, (x, v) -> x.taleFor(v));
            refuses(BAD, EMPTY, x -> x.taleFor(0));
            for (int k = 0; k < 5; k++) {
                int of = k;
                asks(BUSY, x -> x.taleFor(of));
            }
        });
    }

    private void gateFor() {
        says(19, "GATE likewise.", () -> {
            for (int gate = 0; gate < 6; gate++) {
                BrokenLoaves x = Roads.one(1, 0, 5);
                x.gate(gate, 0, 1);
                is("the dusty one, " + gate, x.gateFor(0), gate);
                is("GATE stays", x.personOf(0, 3), 0);
                x = Roads.one(1, 0, 5);
                x.house(0, 6);
                x.gate(gate, 1, 6);
                is("the open one, " + gate, x.gateFor(0), gate);
            }
        });
        says(19, "GATE likewise. BAD.", () -> {
            is("all alike", Roads.people(6).gateFor(5), 0);
            is("all alike, OVER", OVER.make().gateFor(4), 0);
            BrokenLoaves x = Roads.one(1, 0, 5);
            x.gate(5, 0, 9);
            x.gate(4, 0, 9);
            is("4 and 5", x.gateFor(0), 4);
        });
        says(19, "BAD.", () -> {
            outside(0, 4, BUSY, (x, v) -> x.gateFor(v));
            refuses(BAD, EMPTY, x -> x.gateFor(0));
            for (int k = 0; k < 5; k++) {
                int of = k;
                asks(BUSY, x -> x.gateFor(of));
            }
        });
    }

    private void bakery() {
        says(20, "BAKERY of v (0 to 999).", () -> {
            range(0, 999, BUSY, (x, v) -> x.bakery(v));
            asks(2, BUSY, x -> x.bakery(0));
        });
        says(20, "the first DAY of THE REST behind which LOAF is v or more", () -> {
            for (int day = 1; day < 16; day++) {
                // behind DAY 0 LOAF is 11; each day takes 1, till the tramp brings 18 and eats 3
                int loaf = Math.max(0, 12 - day) + 18 - 3 - 1;
                is("as much, on DAY " + day, shutTill(day, 16).bakery(loaf), day);
                is("1 more than ever", shutTill(day, 16).bakery(Math.max(loaf, 11) + 1), NONE);
                is("on the last DAY", shutTill(day, day + 1).bakery(loaf), day);
                is("END ahead of it", shutTill(day, day).bakery(loaf), NONE);
                is("behind DAY 0", shutTill(day, 16).bakery(11), 0);
            }
            BrokenLoaves x = new BrokenLoaves();
            x.house(1, 999);
            is("998 behind the first DAY", x.bakery(998), 0);
            is("999 no more", x.bakery(999), NONE);
        });
        says(20, "BAD; NONE.", () -> {
            refuses(NONE, BUSY, x -> x.bakery(999));
            refuses(NONE, OVER, x -> x.bakery(0));
            refuses(BAD, OVER, x -> x.bakery(1000));
            refuses(BAD, OVER, x -> x.bakery(-1));
        });
    }

    private void winter() {
        says(21, "What = 0 on how many DAYS of THE REST nobody more is FED", () -> {
            for (int end = 1; end <= 16; end++) {
                BrokenLoaves x = new BrokenLoaves();
                x.ends(end);
                is("nobody, END " + end, x.winter(0), end);
                is("one, END " + end, shutTill(0, end).winter(0), end - 1);
            }
            is("OVER", OVER.make().winter(0), 0);
            BrokenLoaves x = Roads.still();
            for (int k = 0; k < 6; k++) x.person(2, 0, 9, 0);
            x.ends(6);
            is("each DAY somebody is FED", x.winter(0), 0);
            is("DAYS ahead of it count, too", shutTill(9, 12).winter(0), 11);
        });
        says(21, "1 LOAF behind THE REST", () -> {
            BrokenLoaves x = Roads.still();
            x.ends(11);
            is("1 left", x.winter(1), 1);
            x.ends(12);
            is("just 0", x.winter(1), 0);
            x.ends(13);
            is("0 at least", x.winter(1), 0);
            x = OVER.make();
            is("OVER: as it is", x.winter(1), x.state(8));
        });
        says(21, "BAD.", () -> {
            range(0, 1, BUSY, (x, v) -> x.winter(v));
            outside(0, 1, OVER, (x, v) -> x.winter(v));
            asks(BUSY, x -> x.winter(0));
            asks(BUSY, x -> x.winter(1));
        });
    }

    /** People with such needs, at gates of their own. */
    private static BrokenLoaves needs(int... needs) {
        BrokenLoaves x = new BrokenLoaves();
        for (int k = 0; k < needs.length; k++) x.person(1, needs[k], 1, k);
        return x;
    }

    private void tables() {
        says(22, "whose NEEDS are 2 apart at most", () -> {
            for (int apart = -4; apart <= 4; apart++) {
                boolean close = apart >= -2 && apart <= 2;
                BrokenLoaves x = needs(30, 30 + apart);
                is(apart + " apart", x.tables(-1), close ? 1 : 2);
                is(apart + " apart", x.tables(0), close ? 3 : 1);
                is(apart + " apart", x.tables(1), close ? 3 : 2);
            }
            is("0 and 60", needs(0, 60).tables(-1), 2);
        });
        says(22, "of one GATE", () -> {
            for (int gate = 0; gate < 6; gate++) {
                BrokenLoaves x = needs(0, 60);
                x.change(0, 3, gate);
                x.change(1, 3, gate);
                is("GATE " + gate, x.tables(1), 3);
            }
        });
        says(22, "a TABLE: all that hang together so, one by the other", () -> {
            is("six alone", needs(0, 10, 20, 30, 40, 50).tables(-1), 6);
            is("six in a chain", needs(0, 2, 4, 6, 8, 10).tables(-1), 1);
            is("the chain", needs(10, 0, 8, 2, 6, 4).tables(0), 63);
            is("a chain with a gap", needs(0, 2, 4, 7, 9, 11).tables(0), 7);
            is("behind the gap", needs(0, 2, 4, 7, 9, 11).tables(5), 56);
            is("two tables", needs(0, 2, 4, 7, 9, 11).tables(-1), 2);
        });
        says(22, "two PEOPLE that aren't FED", () -> {
            BrokenLoaves x = needs(0, 2, 4);
            x.change(1, 5, 1);
            is("nobody between", x.tables(-1), 2);
            is("alone", x.tables(0), 1);
            is("alone", x.tables(2), 4);
        });
        says(22, "(0: it is FED)", () -> {
            BrokenLoaves x = needs(0, 2, 4);
            for (int k = 0; k < 3; k++) x.change(k, 5, 1);
            for (int k = 0; k < 3; k++) is("FED", x.tables(k), 0);
            is("no TABLES", x.tables(-1), 0);
        });
        says(22, "BAD: also no such PERSON.", () -> {
            range(-1, 4, BUSY, (x, v) -> x.tables(v));
            range(-1, 5, CROWDED, (x, v) -> x.tables(v));
            refuses(BAD, EMPTY, x -> x.tables(0));
            asks(0, EMPTY, x -> x.tables(-1));
            asks(BUSY, x -> x.tables(-1));
            asks(BUSY, x -> x.tables(4));
        });
    }

    private void rounds() {
        says(23, "ROUNDS from so many parts (0 to 999)", () -> {
            range(0, 999, BUSY, (x, v) -> x.rounds(v, 0));
            range(0, 999, BUSY, (x, v) -> x.rounds(v, 1));
            is("999 down to 0", needs(0).rounds(999, 0), 999);
            is("0 up to 60", needs(60).rounds(0, 0), 60);
            is("0 to 0", needs(0).rounds(0, 0), 0);
            is("60 to 60", needs(60).rounds(60, 0), 0);
        });
        says(23, "what 0 how many parts, 1 the first PERSON.", () -> range(0, 1, BUSY, (x, v) -> x.rounds(5, v)));
        says(23, "BAD; NONE (what 1): all are FED.", () -> {
            refuses(NONE, EMPTY, x -> x.rounds(0, 1));
            asks(0, EMPTY, x -> x.rounds(999, 0));
            BrokenLoaves x = needs(10, 20);
            x.change(0, 5, 1);
            is("one is not", x.rounds(0, 1), 1);
            x.change(1, 5, 1);
            is("all are", x.rounds(0, 1), NONE);
            is("no parts", x.rounds(0, 0), 0);
            refuses(BAD, EMPTY, y -> y.rounds(1000, 1));
            refuses(BAD, EMPTY, y -> y.rounds(-1, 1));
            refuses(BAD, EMPTY, y -> y.rounds(0, 2));
        });
        says(23, "NEEDS of all PEOPLE that aren't FED", () -> {
            BrokenLoaves x = needs(0, 30, 60);
            is("all", x.rounds(30, 0), 90);
            x.change(0, 5, 1);
            is("without the lowest", x.rounds(30, 0), 30);
            x.change(2, 5, 1);
            is("the one where it starts", x.rounds(30, 0), 0);
        });
    }

    private void roundsInRows() {
        says(23, "the fewest parts (up or down) to go", () -> {
            is("down first", needs(10, 40).rounds(24, 0), 14 + 30);
            is("down first", needs(10, 40).rounds(24, 1), 0);
            is("up first", needs(10, 40).rounds(26, 0), 14 + 30);
            is("up first", needs(10, 40).rounds(26, 1), 1);
            is("from below all", needs(10, 40, 20).rounds(5, 0), 35);
            is("from above all", needs(10, 40, 20).rounds(50, 1), 1);
            is("from the lowest", needs(40, 10).rounds(10, 0), 30);
            is("from the highest", needs(10, 40).rounds(40, 0), 30);
        });
        says(23, "of several rows the FIRST: the least PERSON first, where they are unlike first", () -> {
            is("as far down as up", needs(40, 10).rounds(25, 1), 0);
            is("as far down as up", needs(10, 40).rounds(25, 1), 0);
            is("on the way up, or down", needs(30, 10, 40).rounds(25, 1), 0);
            is("one that is on no way", needs(20, 30, 40).rounds(10, 1), 0);
            is("where it starts is the other", needs(40, 20, 20).rounds(20, 1), 1);
            is("all of one NEED", needs(7, 7, 7).rounds(50, 1), 0);
            BrokenLoaves x = needs(7, 7, 7);
            x.change(0, 5, 1);
            is("the least that isn't FED", x.rounds(50, 1), 1);
            // from where the first stands already, the other ones cost as much behind it
            is("passed by at no cost", needs(60, 25, 0).rounds(25, 1), 1);
        });
    }
}

/** Boundaries of promises 24 to 30 and 38 to 41: plans, the game, rows. */
final class PlansEdges extends Edge {
    void all() {
        best();
        ith();
        ways();
        feast();
        bars();
        game();
        play();
        prove();
        row();
        alterRow();
        judge();
        reader();
    }

    /** So many pilgrims of tale 0, with no need, on a still road: each is worth 3 and 9, then 1, then 0. */
    private static BrokenLoaves pilgrims(int count) {
        BrokenLoaves x = Roads.still();
        for (int k = 0; k < count; k++) x.person(2, 0, 0, 0);
        return x;
    }

    private static BrokenLoaves pilgrims(int count, int end) {
        BrokenLoaves x = pilgrims(count);
        x.ends(end);
        return x;
    }

    private void best() {
        says(24, "WORTH of the BEST PLANS of n (0 to 4). BAD.", () -> {
            range(0, 4, BUSY, (x, v) -> x.best(v));
            outside(0, 4, OVER, (x, v) -> x.best(v));
            for (int n = 0; n <= 4; n++) {
                int of = n;
                is("nobody, n " + n, new BrokenLoaves().best(n), 0);
                is("six, n " + n, pilgrims(6).best(n), 12 * n);
                is("one, n " + n, pilgrims(1).best(n), new int[] {0, 12, 13, 13, 13}[n]);
                asks(BUSY, x -> x.best(of));
            }
        });
        says(24, "n DAYS (fewer, if it is OVER)", () -> {
            for (int end = 1; end <= 5; end++) {
                for (int n = 0; n <= 4; n++) is("n " + n + ", END " + end, pilgrims(6, end).best(n), 12 * Math.min(n, end));
            }
            for (int n = 0; n <= 4; n++) is("OVER, n " + n, OVER.make().best(n), 0);
        });
        says(24, "Its WORTH: of these DAYS together.", () -> {
            BrokenLoaves x = pilgrims(6);
            x.day();
            is("SCORE of the DAYS behind does not count", x.best(1), 12);
        });
    }

    private void ith() {
        says(25, "The i-th (0 to 3) ACT of the FIRST of them.", () -> {
            range(0, 3, BUSY, (x, v) -> x.ith(4, v));
            range(0, 4, BUSY, (x, v) -> x.ith(v, 0));
            // six alike: the lesser ACT first
            for (int n = 1; n <= 4; n++) {
                for (int i = 0; i < n; i++) is("n " + n + ", i " + i, pilgrims(6).ith(n, i), i + 1);
            }
        });
        says(25, "NONE: it has not so many.", () -> {
            for (int n = 0; n <= 4; n++) {
                for (int i = 0; i <= 3; i++) {
                    is("n " + n + ", i " + i, pilgrims(1).ith(n, i) == NONE ? 1 : 0, i < n ? 0 : 1);
                    for (int end = 1; end <= 4; end++) {
                        is("END " + end, pilgrims(1, end).ith(n, i) == NONE ? 1 : 0, i < Math.min(n, end) ? 0 : 1);
                    }
                }
            }
            refuses(NONE, BUSY, x -> x.ith(0, 0));
            refuses(NONE, BUSY, x -> x.ith(3, 3));
            refuses(NONE, OVER, x -> x.ith(4, 0));
        });
        says(25, "BAD; NONE", () -> {
            refuses(BAD, BUSY, x -> x.ith(0, 4));
            refuses(BAD, BUSY, x -> x.ith(2, 4));
            refuses(BAD, BUSY, x -> x.ith(0, -1));
            outside(0, 3, OVER, (x, v) -> x.ith(4, v));
            outside(0, 4, OVER, (x, v) -> x.ith(v, 3));
        });
        says(25, "the FIRST of these is that with the lesser ACT where they are unlike first", () -> {
            BrokenLoaves x = pilgrims(1);
            // 12 on any one day, 1 on any later one
            is("told on the first of two", x.ith(2, 0), 1);
            is("and on the second", x.ith(2, 1), 1);
            // 12 and 1 on two of three days: none is told on the first
            int[] acts = {0, 1, 1};
            for (int i = 0; i < 3; i++) is("of three, " + i, x.ith(3, i), acts[i]);
            Check.rules(x, "pilgrim shut;");
            for (int i = 0; i < 4; i++) is("nobody rather than one that is shut out", x.ith(4, i), 0);
        });
        says(25, "0 none is told, or 1 more than the number of the PERSON that is", () -> {
            for (int k = 0; k < 6; k++) {
                BrokenLoaves x = pilgrims(6);
                Check.rules(x, "pilgrim if not number=" + k + " shut;");
                is("PERSON " + k, x.ith(1, 0), k + 1);
            }
        });
    }

    private void ways() {
        says(26, "How many of them there are. BAD.", () -> {
            range(0, 4, BUSY, (x, v) -> x.ways(v));
            outside(0, 4, OVER, (x, v) -> x.ways(v));
            int[] six = {1, 6, 30, 120, 360};
            int[] one = {1, 1, 1, 4, 11};
            int[] powers = {1, 7, 49, 343, 2401};
            for (int n = 0; n <= 4; n++) {
                is("nobody, n " + n, new BrokenLoaves().ways(n), 1);
                is("six, n " + n, pilgrims(6).ways(n), six[n]);
                is("one, n " + n, pilgrims(1).ways(n), one[n]);
                is("OVER, n " + n, OVER.make().ways(n), 1);
                is("END 1, n " + n, pilgrims(6, 1).ways(n), n == 0 ? 1 : 6);
                BrokenLoaves x = pilgrims(6);
                Check.rules(x, "person shut;");
                is("all alike, n " + n, x.ways(n), powers[n]);
            }
            asks(BUSY, x -> x.ways(4));
        });
    }

    private void feast() {
        says(27, "FEAST by n (0 to 4), a set of PEOPLE (of such as there are).", () -> {
            range(0, 4, BUSY, (x, v) -> x.feast(v, 0));
            range(0, 31, BUSY, (x, v) -> x.feast(2, v));
            range(0, 63, CROWDED, (x, v) -> x.feast(1, v));
            refuses(BAD, EMPTY, x -> x.feast(1, 1));
            for (int count = 0; count <= 6; count++) {
                BrokenLoaves x = pilgrims(count);
                is("the greatest set of " + count, x.feast(4, (1 << count) - 1), count <= 4 ? count : NONE);
                is("one that is not there", x.feast(4, 1 << count), BAD);
            }
        });
        says(27, "the fewest ACTS that aren't 0", () -> {
            for (int n = 0; n <= 4; n++) {
                for (int set = 0; set < 64; set++) {
                    int count = Integer.bitCount(set);
                    is("n " + n + ", set " + set, pilgrims(6).feast(n, set), count <= n ? count : NONE);
                }
            }
            BrokenLoaves x = pilgrims(2);
            x.change(0, 5, 1);
            is("FED already", x.feast(4, 1), 0);
            is("FED already, no DAYS", x.feast(0, 1), 0);
            is("the other one", x.feast(4, 3), 1);
        });
        says(27, "NONE.", () -> {
            refuses(NONE, BUSY, x -> x.feast(0, 16));
            refuses(NONE, OVER, x -> x.feast(4, 16));
            is("no one is asked, OVER", OVER.make().feast(4, 0), 0);
            is("END 1", pilgrims(6, 1).feast(4, 3), NONE);
            is("END 2", pilgrims(6, 2).feast(4, 3), 2);
        });
        says(27, "BAD; NONE.", () -> {
            outside(0, 4, OVER, (x, v) -> x.feast(v, 16));
            outside(0, 31, OVER, (x, v) -> x.feast(0, v));
            asks(BUSY, x -> x.feast(4, 4));
        });
    }

    private void bars() {
        says(28, "BAR likewise.", () -> {
            range(0, 4, BUSY, (x, v) -> x.bars(v, 0));
            range(0, 31, BUSY, (x, v) -> x.bars(2, v));
            range(0, 63, CROWDED, (x, v) -> x.bars(1, v));
            refuses(BAD, EMPTY, x -> x.bars(1, 1));
            for (int count = 0; count <= 6; count++) is("one that is not there", pilgrims(count).bars(4, 1 << count), BAD);
        });
        says(28, "BAR: the least of them that is so behind no PLAN of n.", () -> {
            for (int set = 0; set < 64; set++) {
                int least = NONE;
                for (int k = 5; k >= 0; k--) if ((set >> k & 1) == 1) least = k;
                is("no DAYS, set " + set, pilgrims(6).bars(0, set), least);
                is("each behind some PLAN of 1, set " + set, pilgrims(6).bars(1, set), NONE);
                BrokenLoaves x = pilgrims(6);
                Check.rules(x, "person if number>3 shut;");
                int shut = (set & 16) != 0 ? 4 : (set & 32) != 0 ? 5 : NONE;
                is("two are shut out, set " + set, x.bars(2, set), shut);
            }
        });
        says(28, "NONE: each is so behind some.", () -> {
            refuses(NONE, BUSY, x -> x.bars(4, 0));
            refuses(NONE, BUSY, x -> x.bars(1, 1));
            BrokenLoaves x = pilgrims(3);
            x.change(1, 5, 1);
            is("FED already", x.bars(0, 2), NONE);
            is("the next one is not", x.bars(0, 6), 2);
            asks(4, OVER, y -> y.bars(4, 16));
        });
        says(28, "BAD; NONE", () -> {
            outside(0, 4, OVER, (x, v) -> x.bars(v, 0));
            outside(0, 31, OVER, (x, v) -> x.bars(0, v));
        });
    }

    private void game() {
        says(29, "VALUE of a GAME of n (1 to 4). BAD.", () -> {
            range(1, 4, BUSY, (x, v) -> x.game(v));
            outside(1, 4, OVER, (x, v) -> x.game(v));
            for (int n = 1; n <= 4; n++) {
                int of = n;
                is("nobody, n " + n, new BrokenLoaves().game(n), 0);
                is("six, n " + n, pilgrims(6).game(n), n < 3 ? 12 : 24);
                is("OVER, n " + n, OVER.make().game(n), 0);
                asks(BUSY, x -> x.game(of));
            }
        });
        says(29, "ahead of n DAYS (till it is OVER) each an ACT (also 0)", () -> {
            for (int end = 1; end <= 4; end++) {
                for (int n = 1; n <= 4; n++) is("n " + n + ", END " + end, pilgrims(6, end).game(n), Math.min(n, end) < 3 ? 12 : 24);
            }
        });
        says(29, "the first one wants as much WORTH as can be, the other one as little", () -> {
            BrokenLoaves x = pilgrims(1);
            Check.rules(x, "pilgrim if day=1 pass;");
            // the other one could tell it for 1, so that it is worth 1 no more on day 2: it is worth as much to let it be
            is("12, 0", x.game(2), 12);
            is("12, then 0 and 1, or 1 and 0", x.game(3), 13);
        });
        says(29, "VALUE: that, if both play as well as they can.", () -> {
            BrokenLoaves x = Roads.one(1, 60, 9);
            Check.rules(x, "tramp if day=1 pass;");
            // the other one gives 1 for a pass on day 1, so that the tramp is worth 14 on day 2, not 16
            is("18, 1, 14", x.game(3), 33);
            is("by the tramp", x.play(3), 1);
            x.day();
            // from day 1 a pass is worth 1 now, and 2 less on day 3
            is("0, 0, 18", x.game(3), 18);
            is("none", x.play(3), 0);
        });
    }

    private void play() {
        says(30, "The least ACT by which who begins comes to it.", () -> {
            range(1, 4, BUSY, (x, v) -> x.play(v));
            is("nobody", new BrokenLoaves().play(4), 0);
            is("six alike", pilgrims(6).play(4), 1);
            for (int k = 0; k < 6; k++) {
                BrokenLoaves x = pilgrims(6);
                Check.rules(x, "pilgrim if not number=" + k + " shut;");
                is("PERSON " + k, x.play(1), k + 1);
            }
            BrokenLoaves x = pilgrims(6);
            Check.rules(x, "pilgrim shut;");
            is("none rather than one that is shut out", x.play(4), 0);
            asks(BUSY, y -> y.play(3));
        });
        says(30, "BAD; NONE: it is OVER.", () -> {
            for (int n = 1; n <= 4; n++) {
                int of = n;
                refuses(NONE, OVER, x -> x.play(of));
            }
            is("the last DAY", pilgrims(2, 1).play(4), 1);
            outside(1, 4, OVER, (x, v) -> x.play(v));
            outside(1, 4, BUSY, (x, v) -> x.play(v));
        });
    }

    private void prove() {
        says(38, "ROWS of the FIRST of the BEST PLANS of n (0 to 4): how many.", () -> {
            for (int n = 0; n <= 4; n++) {
                BrokenLoaves x = pilgrims(6);
                is("n " + n, x.prove(n), n);
                is("many ROWS", x.many(4), n);
                for (int k = 0; k < n; k++) {
                    is("ACT", x.row(k, 0), k + 1);
                    is("WORTH", x.row(k, 1), 12);
                    is("FED behind it, as a set", x.row(k, 2), (1 << (k + 1)) - 1);
                }
                for (int end = 1; end <= 4; end++) is("n " + n + ", END " + end, pilgrims(6, end).prove(n), Math.min(n, end));
                is("OVER", OVER.make().prove(n), 0);
            }
        });
        says(38, "how many", () -> {
            BrokenLoaves x = pilgrims(6);
            x.prove(4);
            is("fewer in place of more", x.prove(1), 1);
            is("the second is gone", x.row(1, 0), -9);
            is("none in place of one", x.prove(0), 0);
            is("the first is gone", x.row(0, 0), -9);
            x.prove(2);
            x.ends(1);
            x.day();
            is("ROWS stay as days go by", x.many(4), 2);
            is("none when it is OVER", x.prove(2), 0);
            is("many", x.many(4), 0);
        });
        says(38, "BAD.", () -> {
            outside(0, 4, BUSY, (x, v) -> x.prove(v));
            outside(0, 4, OVER, (x, v) -> x.prove(v));
        });
        says(38, "for each DAY (ACT, what it is WORTH, PEOPLE that are FED behind it, as a set)", () -> {
            BrokenLoaves x = BUSY.make();
            x.prove(4);
            x.sheet(3, 0, 1);
            for (int k = 0; k < 4; k++) {
                x.write(3, 0, x.row(k, 0));
                is("WORTH of ROW " + k, x.row(k, 1), x.goAll(3, 0, 1));
                is("FED of ROW " + k, x.row(k, 2), x.state(5));
            }
        });
    }

    private void row() {
        says(39, "Of ROW k: what = 0 ACT, 1 WORTH, 2 those FED.", () -> {
            BrokenLoaves x = pilgrims(6);
            x.day();
            x.prove(4);
            int[][] due = {{2, 12, 3}, {3, 12, 7}, {4, 12, 15}, {5, 12, 31}};
            for (int k = 0; k < 4; k++) {
                for (int what = 0; what < 3; what++) is("ROW " + k + ", " + what, x.row(k, what), due[k][what]);
            }
        });
        says(39, "-9: there is none such, another what.", () -> {
            for (int k : new int[] {-1, 2, 3, 4, Integer.MIN_VALUE, Integer.MAX_VALUE}) refuses(-9, BUSY, x -> x.row(k, 0));
            for (int k : new int[] {-1, 4, 5}) refuses(-9, CROWDED, x -> x.row(k, 2));
            for (int what : new int[] {-1, 3, Integer.MIN_VALUE, Integer.MAX_VALUE}) refuses(-9, BUSY, x -> x.row(1, what));
            refuses(-9, EMPTY, x -> x.row(0, 0));
            is("the last", CROWDED.make().row(3, 2) >= 0 ? 1 : 0, 1);
        });
    }

    private void alterRow() {
        says(40, "It becomes v: what it was.", () -> {
            for (int v : new int[] {0, 7, -1, -9, Integer.MIN_VALUE, Integer.MAX_VALUE}) {
                for (int k = 0; k < 4; k++) {
                    for (int what = 0; what < 3; what++) {
                        BrokenLoaves x = pilgrims(6);
                        x.prove(4);
                        int was = x.row(k, what);
                        is("was", x.alterRow(k, what, v), was);
                        is("is", x.row(k, what), v);
                        is("was that", x.alterRow(k, what, was), v);
                        is("right again", x.judge(), 0);
                    }
                }
            }
        });
        says(40, "-9 likewise.", () -> {
            for (int k : new int[] {-1, 2, 3, 4, Integer.MIN_VALUE, Integer.MAX_VALUE}) refuses(-9, BUSY, x -> x.alterRow(k, 0, 5));
            for (int k : new int[] {-1, 4, 5}) refuses(-9, CROWDED, x -> x.alterRow(k, 2, 5));
            for (int what : new int[] {-1, 3, Integer.MIN_VALUE, Integer.MAX_VALUE}) refuses(-9, BUSY, x -> x.alterRow(1, what, 5));
            refuses(-9, EMPTY, x -> x.alterRow(0, 0, 5));
        });
    }

    private void judge() {
        says(41, "THE READER takes ROWS as such: 0 all is right", () -> {
            asks(0, EMPTY, BrokenLoaves::judge);
            asks(0, BUSY, BrokenLoaves::judge);
            asks(0, CROWDED, BrokenLoaves::judge);
            is("no ROWS, OVER", Roads.goneBy(new BrokenLoaves(), 16).judge(), 0);
        });
        says(41, "else the first ROW that isn't, and 1 more", () -> {
            for (int k = 0; k < 4; k++) {
                for (int what = 0; what < 3; what++) {
                    BrokenLoaves x = pilgrims(6);
                    x.prove(4);
                    x.alterRow(k, what, 77);
                    is("ROW " + k + ", " + what, x.judge(), k + 1);
                    x.alterRow(3, 1, 77);
                    is("the first of two", x.judge(), k + 1);
                }
            }
        });
    }

    private void reader() {
        says(41, "right is one whose ACT is one", () -> {
            int[][] acts = {{-1, 2}, {7, 2}, {Integer.MIN_VALUE, 2}, {Integer.MAX_VALUE, 2}, {6, 0}, {2, 0}, {1, 2}};
            for (int[] act : acts) {
                BrokenLoaves x = pilgrims(6);
                x.prove(2);
                x.alterRow(1, 0, act[0]);
                // another pilgrim is worth as much; who is fed is then another set
                if (act[1] == 0) x.alterRow(1, 2, 1 | 1 << (act[0] - 1));
                is("ACT " + act[0], x.judge(), act[1]);
            }
            BrokenLoaves x = pilgrims(6);
            x.prove(1);
            x.alterRow(0, 0, 0);
            x.alterRow(0, 1, 0);
            x.alterRow(0, 2, 0);
            is("ACT 0", x.judge(), 0);
            x = pilgrims(5);
            x.prove(1);
            x.alterRow(0, 0, 6);
            x.alterRow(0, 1, 0);
            x.alterRow(0, 2, 0);
            is("a PERSON that is not there", x.judge(), 1);
        });
        says(41, "if it isn't OVER", () -> {
            for (int end = 1; end <= 5; end++) {
                BrokenLoaves x = pilgrims(6);
                x.prove(4);
                x.ends(end);
                is("END " + end, x.judge(), end < 4 ? end + 1 : 0);
            }
            asks(1, OVER, BrokenLoaves::judge);
        });
        says(41, "from how it is now", () -> {
            BrokenLoaves x = pilgrims(6);
            x.prove(4);
            x.day();
            is("the first is FED already", x.judge(), 1);
            x.anew();
            is("as it was", x.judge(), 0);
            x.house(0, 9);
            is("the GATE is shut", x.judge(), 1);
        });
    }
}

/** Boundaries that 'Terms' tells of several promises at once, and what calls leave for later ones. */
final class TermsEdges extends Edge {
    void all() {
        numbers();
        sets();
        quotients();
        hostRefusals();
        heldThings();
        bodies();
        fits();
        laterCalls();
    }

    private void numbers() {
        says(1, "BAD (-1) there is no such thing, or a number is not as told; FULL (-2); NONE (-3); STATE (-4)", () -> {
            is("BAD", BrokenLoaves.BAD, -1);
            is("FULL", BrokenLoaves.FULL, -2);
            is("NONE", BrokenLoaves.NONE, -3);
            is("STATE", BrokenLoaves.STATE, -4);
        });
    }

    private void sets() {
        says(12, "Sets are told by bits.", () -> {
            for (int set = 0; set < 64; set++) {
                BrokenLoaves x = Roads.people(6);
                for (int k = 0; k < 6; k++) {
                    x.change(k, 4, set >> k & 1);
                    x.change(5 - k, 5, set >> k & 1);
                }
                int turned = Integer.reverse(set) >>> 26;
                is("MET", x.state(4), set);
                is("FED", x.state(5), turned);
                is("how many FED", x.many(2), Integer.bitCount(set));
            }
        });
        says(22, "Sets are told by bits.", () -> {
            for (int k = 0; k < 6; k++) is("alone", Roads.people(6).tables(k), 1 << k);
            BrokenLoaves x = Roads.people(6);
            for (int k = 0; k < 6; k++) x.change(k, 3, 5);
            for (int k = 0; k < 6; k++) is("all", x.tables(k), 63);
        });
        says(39, "PEOPLE that are FED behind it, as a set", () -> {
            BrokenLoaves x = Roads.one(1, 0, 9);
            for (int k = 1; k < 6; k++) x.person(1, 60, 0, 1);
            x.change(5, 5, 1);
            x.prove(1);
            is("the first, and the sixth that was FED", x.row(0, 2), 33);
        });
    }

    private void quotients() {
        says(3, "Quotients are cut towards 0.", () -> {
            is("half of 9", Roads.one(4, 0, 9).personOf(0, 6), 4);
            is("half of 1", Roads.one(4, 0, 1).personOf(0, 6), 0);
            is("half of 6, and 1", Roads.one(5, 0, 1).personOf(0, 7), 4);
        });
        says(15, "Quotients are cut towards 0.", () -> {
            for (int snow = 0; snow <= 9; snow++) {
                BrokenLoaves x = Roads.still();
                x.house(0, snow);
                x.day();
                is("a third of " + snow, 12 - 1 - x.state(8), snow < 3 ? 0 : snow < 6 ? 1 : snow < 9 ? 2 : 3);
            }
        });
        says(49, "what x leaves by (a + 1 - n), below 0 if x is", () -> {
            int[][] left = {{7, 4, 3}, {-7, 4, -3}, {8, 4, 0}, {-8, 4, 0}, {-1, 4, -1}, {3, 4, 3}, {-3, 4, -3}};
            for (int[] l : left) {
                BrokenLoaves x = Roads.people(6);
                x.shelf(0, 0, 1);
                x.change(1, 3, 4);
                is(l[0] + " by 4", x.act(0, 2, l[0]), l[2]);
                x.remake(5, 2);
                x.change(5, 3, 0);
                x.shelf(0, 0, 5);
                is(l[0] + " by -4", x.act(0, 2, l[0]), l[2]);
            }
        });
    }

    private void hostRefusals() {
        says(43, "-11 nothing where something is asked", () -> refuses(-11, BUSY, x -> x.write(3, 0, 0)));
        says(44, "-13 a thing of another sort or kind", () -> refuses(-13, BUSY, x -> x.item(0, 1, 0)));
        says(48, "-13 a thing of another sort or kind", () -> {
            refuses(-13, BUSY, x -> x.taken(0, 3));
            refuses(-13, BUSY, x -> x.taken(1, 14));
        });
        says(45, "-11 nothing where something is asked", () -> refuses(-11, BUSY, x -> x.goAll(3, 0, 0)));
        says(46, "-13 a thing of another sort or kind", () -> refuses(-13, BUSY, x -> x.wouldBe(1, 0, 0)));
        says(49, "-15 parted by 0", () -> Edge.refusesOf(-15, parted().act(0, 2, 1)));
        says(49, "0, and no TRACE then", () -> {
            BrokenLoaves x = parted();
            is("parted by 0", x.act(0, 2, 1), -15);
            is("an act behind that is not", x.act(0, 0, 1), 0);
            is("blesses is", x.act(0, 3, 1), -15);
            x.change(1, 3, 1);
            is("not parted by 1", x.act(0, 2, 1), 0);
        });
    }

    private static BrokenLoaves parted() {
        BrokenLoaves x = Roads.people(2);
        x.change(1, 3, 0);
        x.shelf(0, 0, 1);
        return x;
    }

    private void heldThings() {
        says(49, "A PERSON is held as a thing of its KIND; n: its number, a: its GATE.", () -> {
            for (int n = 0; n < 6; n++) {
                for (int a = 0; a < 6; a++) {
                    BrokenLoaves x = Roads.people(6);
                    x.shelf(0, 0, n);
                    x.remake(n, 2);
                    x.change(n, 3, a);
                    is("n " + n, x.act(0, 0, 8), 8 ^ n);
                    is("a " + a, x.act(0, 1, 8), (8 ^ n) * 3 + a);
                    x.remake(n, 3);
                    is("another KIND", x.act(0, 0, 8), (8 ^ n) - 7);
                    is("taken for that", x.taken(0, 3), n);
                }
            }
        });
        says(48, "hold a PERSON (by its number", () -> {
            BrokenLoaves x = Roads.people(2);
            x.shelf(0, 0, 1);
            x.shelf(1, 0, 1);
            x.remake(1, 5);
            is("on two SHELVES", x.taken(0, 5), 1);
            is("on two SHELVES", x.taken(1, 4), 1);
            x.shelf(0, 2, 0);
            is("one is put away", x.taken(0, 5), -11);
            is("the other stays", x.taken(1, 5), 1);
        });
    }

    private void bodies() {
        says(50, "BODIES, each with its number", () -> {
            int[][][] traces = {
                {{20, 10}, {11, 20, 10}, {12}, {13, 11, 20, 10, 12}},
                {{10}, {30, 11, 10}, {12}, {13, 30, 11, 10, 12}},
                {{50, 10}, {30, 11, 50, 10}, {12}, {51, 13, 30, 11, 50, 10, 12, 30, 11, 50, 10}},
                {{10}, {11, 10}, {40, 12}, {13, 11, 10, 40, 12}},
                {{10}, {60, 11, 10}, {61, 40, 12, 10}, {13, 60, 11, 10, 61, 40, 12, 10}}};
            for (int kind = 1; kind <= 5; kind++) {
                for (int act = 0; act <= 3; act++) {
                    BrokenLoaves x = Roads.people(6);
                    x.remake(3, kind);
                    x.shelf(2, 0, 3);
                    x.act(2, act, 5);
                    int[] due = traces[kind - 1][act];
                    is("bodies of KIND " + kind + ", " + act, x.many(6), due.length);
                    for (int i = 0; i < due.length; i++) is("body " + i + " of KIND " + kind + ", " + act, x.trace(i), due[i]);
                    is("behind the last", x.trace(due.length), NONE);
                }
            }
        });
    }

    private void fits() {
        says(33, "Those that FIT: by which each REPORT is so", () -> {
            for (int wrong = 0; wrong < 6; wrong++) {
                BrokenLoaves x = Roads.still();
                for (int r = 0; r < 6; r++) x.report(r, 1, 2, r == wrong ? 2 : 5);
                is("each but one is wider", x.tales(0), 50);
                is("SNOW", x.tales(3), 2);
            }
            BrokenLoaves x = new BrokenLoaves();
            is("none to be so", x.tales(0), 500);
        });
        says(34, "SNOW at first", () -> {
            BrokenLoaves x = new BrokenLoaves();
            x.weather(0, 14);
            x.report(1, 1, 2, 2);
            is("from 0 SNOW blows to 3", x.tales(0), 0);
            is("no STRANGER comes from below 0", x.liar(), 0);
            x.forget();
            x.report(1, 1, 3, 3);
            is("from 0", x.tales(0), 50);
            is("some FIT", x.liar(), NONE);
            x.forget();
            x.report(1, 1, 7, 9);
            is("from 9 SNOW blows to 6", x.liar(), 0);
        });
        says(41, "the others as they are then", () -> {
            for (int what = 1; what <= 2; what++) {
                for (int more = -1; more <= 1; more++) {
                    BrokenLoaves x = Check.five();
                    x.prove(2);
                    x.alterRow(1, what, x.row(1, what) + more);
                    is("what " + what + ", " + more + " more", x.judge(), more == 0 ? 0 : 2);
                }
            }
        });
    }

    /** What one call found out is not left for the next. */
    private void laterCalls() {
        says(28, "What is asked changes nothing, if not told.", () -> {
            BrokenLoaves x = Roads.one(2, 0, 0);
            is("by 1", x.bars(1, 1), NONE);
            is("by 0, behind that", x.bars(0, 1), 0);
            is("feast by 1", x.feast(1, 1), 1);
            is("by 0, behind that", x.feast(0, 1), NONE);
            is("best of 4", x.best(4), 13);
            is("of 0, behind that", x.best(0), 0);
            is("ways of 4", x.ways(4), 11);
            is("of 1, behind that", x.ways(1), 1);
            is("ith of 4", x.ith(4, 3), 1);
            is("of 1, behind that", x.ith(1, 3), NONE);
        });
        says(29, "What is asked changes nothing, if not told.", () -> {
            for (int n = 1; n <= 4; n++) {
                BrokenLoaves x = CROWDED.make();
                BrokenLoaves same = CROWDED.make();
                x.game(4);
                x.play(3);
                x.house(1, 3);
                same.house(1, 3);
                is("VALUE of " + n, x.game(n), same.game(n));
                is("ACT of " + n, x.play(n), same.play(n));
            }
        });
        says(14, "both as long as they go", () -> {
            BrokenLoaves x = new BrokenLoaves();
            Check.rules(x, "99999999999999999999999999999999999999999999");
            is("a NUMBER at the end", Check.rules(x, "tramp if day<1"), -100 - 14);
            Check.rules(x, "zzzzzzzzzzzzzzzzzzzzzzzzzzzzzzzzzzzzzzzzzzzz");
            is("a NAME at the end", Check.rules(x, "tramp if day"), -100 - 12);
            is("no NUMBER for a NAME", Check.rules(x, "9999 pass;"), -100);
            is("no NUMBER for a NAME", Check.rules(x, "tramp 9999;"), -100 - 6);
            StringBuilder full = new StringBuilder();
            while (full.length() < 186) full.append(' ');
            is("the 200th byte is a digit", Check.rules(x, full + "tramp if day<1"), -300);
            is("the 200th byte is a letter", Check.rules(x, full + "tramp if day<x"), -100 - 199);
        });
    }
}

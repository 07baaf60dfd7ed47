/** Boundaries of promises 1 to 12: the road, people. */
final class RoadEdges extends Edge {
    void all() {
        aNewObject();
        atFirst();
        person();
        personOf();
        kindsAreStrange();
        strangeStill();
        eats();
        change();
        remake();
        weather();
        snow();
        gates();
        house();
        ends();
        anew();
        state();
    }

    private void aNewObject() {
        says(1, "No PEOPLE, RULES, REPORTS; nothing is kept.", () -> {
            BrokenLoaves x = new BrokenLoaves();
            is("PEOPLE", x.many(0), 0);
            is("no first PERSON", x.personOf(0, 0), BAD);
            is("RULES", x.many(1), 0);
            is("REPORTS", x.many(3), 0);
            is("no REPORT to forget", x.forget(), 0);
            is("each STRANGER fits", x.tales(0), 500);
            is("nothing is kept", x.again(), NONE);
        });
        says(1, "nothing is kept", () -> {
            BrokenLoaves x = new BrokenLoaves();
            x.keep();
            is("another object keeps for itself", new BrokenLoaves().again(), NONE);
            is("this one has it", x.again(), 0);
        });
        says(1, "An object is used for at most 512 calls after it has been made", () -> {
            BrokenLoaves x = new BrokenLoaves();
            for (int call = 1; call < 512; call++) x.anew();
            is("the 512th call", x.person(1, 1, 1, 1), 0);
        });
    }

    private void atFirst() {
        says(1, "END is 1 to 16 (12 at first)", () -> is("END", new BrokenLoaves().state(1), 12));
        says(1, "DAY: the one that comes (0 at first)", () -> is("DAY", new BrokenLoaves().state(0), 0));
        says(1, "4 at first", () -> {
            for (int d = 0; d < 16; d++) is("WEATHER of DAY " + d, new BrokenLoaves().weather(d, 0), 4);
        });
        says(1, "SNOW (0 to 9; 0 at first)", () -> is("SNOW", new BrokenLoaves().state(7), 0));
        says(1, "a LOAF (parts, 0 to 999; 12 at first)", () -> is("LOAF", new BrokenLoaves().state(8), 12));
        says(1, "DUST (0 to 9; 0 at first)", () -> {
            for (int g = 0; g < 6; g++) is("DUST of GATE " + g, new BrokenLoaves().gateOf(g, 0), 0);
        });
        says(1, "TAKE people by so much SNOW (0 to 9; 5 at first)", () -> {
            for (int g = 0; g < 6; g++) is("GATE " + g + " TAKES", new BrokenLoaves().gateOf(g, 1), 5);
        });
        says(1, "SCORE: what DAYS were WORTH (0 at first)", () -> is("SCORE", new BrokenLoaves().state(2), 0));
        says(1, "z (an int; 1 at first)", () -> is("z", new BrokenLoaves().seed(1), 1));
        says(1, "40 at most, or missing (at first)", () -> {
            for (int s = 0; s < 4; s++) is("SHEET " + s, new BrokenLoaves().item(s, 0, 0), -11);
        });
        says(1, "a SHEET's row, or nothing (at first)", () -> {
            for (int s = 0; s < 4; s++) is("SHELF " + s, new BrokenLoaves().taken(s, 0), -11);
        });
        says(1, "THE TRACE: numbers of the bodies that ran in the latest act()", () -> is("none ran", new BrokenLoaves().many(6), 0));
        says(1, "THE TAPE takes bytes", () -> is("none at first", new BrokenLoaves().many(5), 0));
        says(1, "ROWS of the FIRST of the BEST PLANS", () -> is("none at first", new BrokenLoaves().many(4), 0));
    }

    private void person() {
        says(2, "A PERSON of a KIND 1 to 5", () -> {
            range(1, 5, BUSY, (x, v) -> x.person(v, 1, 1, 1));
            held(1, 5, EMPTY, (x, v) -> x.person(v, 1, 1, 1), x -> x.personOf(0, 0));
        });
        says(2, "a NEED (0 to 60 parts)", () -> held(0, 60, EMPTY, (x, v) -> x.person(1, v, 1, 1), x -> x.personOf(0, 1)));
        says(2, "a TALE (0 to 9)", () -> held(0, 9, EMPTY, (x, v) -> x.person(1, 1, v, 1), x -> x.personOf(0, 2)));
        says(2, "GATES 0 to 5", () -> held(0, 5, EMPTY, (x, v) -> x.person(1, 1, 1, v), x -> x.personOf(0, 3)));
        says(2, "MET (0 to 9: how often; 0 at first); FED or not (at first)", () -> {
            for (int k = 0; k < 6; k++) {
                BrokenLoaves x = Roads.people(6);
                is("MET of " + k, x.personOf(k, 4), 0);
                is("FED of " + k, x.personOf(k, 5), 0);
            }
        });
        says(2, "numbered as they come", () -> {
            BrokenLoaves x = new BrokenLoaves();
            for (int k = 0; k < 6; k++) {
                is("the number", x.person(1 + k % 5, k, k, k), k);
                is("PEOPLE", x.many(0), k + 1);
            }
            for (int k = 0; k < 6; k++) is("NEED stays with its number", x.personOf(k, 1), k);
        });
        says(2, "PEOPLE, 6 at most", () -> {
            is("the sixth", Roads.people(5).person(5, 60, 9, 5), 5);
            refuses(FULL, CROWDED, x -> x.person(1, 1, 1, 1));
        });
        says(2, "of several the first named: BAD (-1)", () -> {
            refuses(BAD, CROWDED, x -> x.person(0, 1, 1, 1));
            refuses(BAD, CROWDED, x -> x.person(1, 61, 1, 1));
            refuses(BAD, CROWDED, x -> x.person(1, 1, 10, 1));
            refuses(BAD, CROWDED, x -> x.person(1, 1, 1, 6));
        });
        says(2, "BAD; FULL.", () -> {
            refuses(BAD, BUSY, x -> x.person(6, 1, 1, 1));
            refuses(BAD, BUSY, x -> x.person(1, -1, 1, 1));
            refuses(BAD, BUSY, x -> x.person(1, 1, -1, 1));
            refuses(BAD, BUSY, x -> x.person(1, 1, 1, -1));
            refuses(FULL, () -> Roads.people(6), x -> x.person(1, 0, 0, 0));
        });
    }

    private void personOf() {
        says(3, "Of a PERSON: what = 0 KIND", () -> {
            for (int count = 0; count <= 6; count++) {
                int people = count;
                for (int k = 0; k < count; k++) is("PERSON " + k + " of " + count, Roads.people(count).personOf(k, 0), 1 + k % 5);
                is("PERSON " + count + " of " + count, Roads.people(people).personOf(people, 0), BAD);
            }
            outside(0, 4, BUSY, (x, v) -> x.personOf(v, 0));
        });
        says(3, "BAD.", () -> range(0, 9, BUSY, (x, v) -> x.personOf(0, v)));
        says(3, "What is asked changes nothing, if not told.", () -> {
            int[] of1 = {2, 16, 9, 1};
            for (int what = 0; what < 4; what++) {
                int asked = what;
                asks(of1[what], BUSY, x -> x.personOf(1, asked));
            }
            asks(2, BUSY, x -> x.personOf(4, 8));
        });
        says(3, "5 1 if it is FED, else 0", () -> {
            BrokenLoaves x = Roads.people(6);
            for (int k = 0; k < 6; k++) {
                is("not FED", x.personOf(k, 5), 0);
                x.change(k, 5, 1);
                is("FED", x.personOf(k, 5), 1);
            }
        });
        says(3, "8 WILL as all is now (0 break, 1 pass, 2 shut)", () -> {
            BrokenLoaves x = Roads.people(3);
            is("break, if no RULE tells", x.personOf(0, 8), 0);
            Check.rules(x, "tramp break; bishop shut; pilgrim pass;");
            for (int k = 0; k < 3; k++) is("WILL of " + k, x.personOf(k, 8), k);
            Check.rules(x, "tramp if snow = 0 shut;");
            is("SNOW as it is now, not as it will be", x.personOf(0, 8), 2);
            x.house(0, 1);
            is("SNOW is another", x.personOf(0, 8), 0);
        });
        says(3, "9 1 if its GATE TAKES it by SNOW as it is, else 0", () -> {
            for (int takes = 0; takes <= 9; takes++) {
                for (int snow = 0; snow <= 9; snow++) {
                    BrokenLoaves x = Roads.people(2);
                    x.gate(1, 1, takes);
                    x.house(0, snow);
                    is("TAKES by " + takes + ", SNOW " + snow, x.personOf(1, 9), snow <= takes ? 1 : 0);
                }
            }
        });
    }

    /** How strange one person is, on a day that has come by others without anybody. */
    private static int strangeOn(int day, int kind, int tale) {
        BrokenLoaves x = new BrokenLoaves();
        x.person(kind, 60, tale, 0);
        return Roads.goneBy(x, day).personOf(0, 6);
    }

    private void kindsAreStrange() {
        says(3, "tramp: twice a person.", () -> {
            for (int tale = 0; tale <= 9; tale++) is("TALE " + tale, strangeOn(0, 1, tale), tale + tale);
        });
        says(3, "pilgrim: 3 more than a person.", () -> {
            for (int tale = 0; tale <= 9; tale++) is("TALE " + tale, strangeOn(1, 2, tale), tale + 3);
        });
        says(3, "bishop: as pilgrim, and 2 on even DAYS.", () -> {
            for (int day = 0; day <= 16; day++) is("DAY " + day, strangeOn(day, 3, 9), day % 2 == 0 ? 14 : 12);
            is("TALE 0", strangeOn(0, 3, 0), 5);
        });
        says(3, "friend: half (cut) of a person.", () -> {
            int[] half = {0, 0, 1, 1, 2, 2, 3, 3, 4, 4};
            for (int tale = 0; tale <= 9; tale++) is("TALE " + tale, strangeOn(2, 4, tale), half[tale]);
        });
        says(3, "double: as friend, but 9 on DAYS that leave 2 by 3.", () -> {
            for (int day = 0; day <= 16; day++) {
                boolean two = day == 2 || day == 5 || day == 8 || day == 11 || day == 14;
                is("DAY " + day, strangeOn(day, 5, 7), two ? 9 : 3);
                is("TALE 0 on DAY " + day, strangeOn(day, 5, 0), two ? 9 : 0);
            }
        });
    }

    private static int still(int dust, int met) {
        BrokenLoaves x = new BrokenLoaves();
        x.person(4, 60, 9, 5);
        x.gate(5, 0, dust);
        x.change(0, 4, met);
        return x.personOf(0, 6);
    }

    private void strangeStill() {
        says(3, "STRANGE STILL: that, and DUST of its GATE, less twice MET (0 at least).", () -> {
            for (int dust = 0; dust <= 9; dust++) {
                for (int met = 0; met <= 9; met++) {
                    int due = 4 + dust - met - met;
                    is("DUST " + dust + ", MET " + met, still(dust, met), due > 0 ? due : 0);
                }
            }
        });
        says(3, "(0 at least)", () -> {
            is("just 0", still(0, 2), 0);
            is("2 below 0", still(0, 3), 0);
            is("1 above 0", still(1, 2), 1);
            is("1 below 0", still(1, 3), 0);
            is("14 below 0", still(0, 9), 0);
        });
        says(3, "DUST of its GATE", () -> {
            BrokenLoaves x = Roads.people(6);
            for (int g = 0; g < 6; g++) {
                int before = x.personOf(g, 6);
                x.gate(g, 0, 9);
                is("of its own GATE " + g, x.personOf(g, 6), before + 9);
                x.gate(g, 0, 0);
                x.gate((g + 1) % 6, 0, 9);
                is("of another one", x.personOf(g, 6), before);
                x.gate((g + 1) % 6, 0, 0);
            }
        });
    }

    private void eats() {
        says(3, "tramp: as a person, and its number.", () -> {
            BrokenLoaves x = new BrokenLoaves();
            for (int k = 0; k < 6; k++) x.person(1, 1, 1, 1);
            for (int k = 0; k < 6; k++) is("number " + k, x.personOf(k, 7), 3 + k);
        });
        says(3, "pilgrim: 1 less than a person. bishop: 5 more than pilgrim. friend: twice a person. double: half (cut) of friend, and 1.", () -> {
            int[] eats = {0, 0, 2, 7, 6, 4};
            for (int kind = 2; kind <= 5; kind++) {
                for (int k = 0; k < 6; k++) {
                    BrokenLoaves x = Roads.people(6);
                    x.remake(k, kind);
                    is("KIND " + kind + ", number " + k, x.personOf(k, 7), eats[kind]);
                }
            }
        });
    }

    private void change() {
        says(4, "NEED (what 1)", () -> {
            held(0, 60, BUSY, (x, v) -> x.change(2, 1, v), x -> x.personOf(2, 1));
            is("what it was", Check.five().change(2, 1, 0), 20);
        });
        says(4, "TALE (2)", () -> {
            held(0, 9, BUSY, (x, v) -> x.change(2, 2, v), x -> x.personOf(2, 2));
            is("what it was", Check.five().change(2, 2, 0), 5);
        });
        says(4, "GATE (3)", () -> {
            held(0, 5, BUSY, (x, v) -> x.change(2, 3, v), x -> x.personOf(2, 3));
            is("what it was", Check.five().change(2, 3, 0), 2);
        });
        says(4, "MET (4)", () -> {
            for (int k = 0; k < 5; k++) {
                int met = k;
                held(0, 9, BUSY, (x, v) -> x.change(met, 4, v), x -> x.personOf(met, 4));
                BrokenLoaves x = Check.five();
                is("what it was", x.change(k, 4, 9), 0);
                is("what it was then", x.change(k, 4, 3), 9);
                for (int j = 0; j < 5; j++) is("MET of another", x.personOf(j, 4), j == k ? 3 : 0);
            }
        });
        says(4, "FED (5: 0, 1)", () -> {
            range(0, 1, BUSY, (x, v) -> x.change(2, 5, v));
            for (int k = 0; k < 5; k++) {
                BrokenLoaves x = Check.five();
                is("what it was", x.change(k, 5, 1), 0);
                is("FED alone", x.state(5), 1 << k);
                is("FED again", x.change(k, 5, 1), 1);
                is("FED still", x.personOf(k, 5), 1);
                is("no more", x.change(k, 5, 0), 1);
                is("nobody", x.state(5), 0);
            }
        });
        says(4, "of a PERSON becomes v: what it was. BAD.", () -> {
            range(0, 4, BUSY, (x, v) -> x.change(v, 1, 0));
            range(1, 5, BUSY, (x, v) -> x.change(0, v, 0));
            refuses(BAD, EMPTY, x -> x.change(0, 1, 0));
            refuses(BAD, BUSY, x -> x.change(0, 0, 2));
            is("the sixth PERSON", Roads.people(6).change(5, 2, 0), 4);
        });
        says(4, "becomes v", () -> {
            BrokenLoaves x = Check.five();
            for (int what = 1; what <= 5; what++) {
                int is = x.personOf(3, what);
                is("to what it is", x.change(3, what, is), is);
                is("as it was", x.personOf(3, what), is);
            }
        });
    }

    private void remake() {
        says(5, "A PERSON becomes one of another KIND (1 to 5): the KIND that it was.", () -> {
            held(1, 5, BUSY, (x, v) -> x.remake(4, v), x -> x.personOf(4, 0));
            BrokenLoaves x = Roads.people(6);
            for (int k = 0; k < 6; k++) {
                is("KIND of " + k + " was", x.remake(k, 5), 1 + k % 5);
                is("was then", x.remake(k, 1), 5);
            }
        });
        says(5, "BAD.", () -> {
            range(0, 4, BUSY, (x, v) -> x.remake(v, 1));
            refuses(BAD, EMPTY, x -> x.remake(0, 1));
            refuses(BAD, CROWDED, x -> x.remake(6, 1));
            is("the sixth PERSON", Roads.people(6).remake(5, 2), 1);
        });
    }

    private void weather() {
        says(6, "WEATHER of a DAY (0 to 15) becomes v (0 to 15): what it was.", () -> {
            range(0, 15, BUSY, (x, v) -> x.weather(v, 0));
            range(0, 15, BUSY, (x, v) -> x.weather(0, v));
            BrokenLoaves x = new BrokenLoaves();
            for (int d = 0; d < 16; d++) is("was at first", x.weather(d, 15 - d), 4);
            for (int d = 0; d < 16; d++) is("is its own", x.weather(d, 0), 15 - d);
        });
        says(6, "BAD.", () -> {
            refuses(BAD, BUSY, x -> x.weather(16, 16));
            refuses(BAD, OVER, x -> x.weather(-1, 15));
        });
        says(6, "Each of DAYS 0 to 15 has WEATHER", () -> {
            for (int day = 0; day < 16; day++) {
                BrokenLoaves x = Roads.still();
                x.ends(16);
                x.weather(day, 12);
                for (int d = 0; d < 16; d++) {
                    x.day();
                    is("it snows 3 on DAY " + day + ", SNOW behind " + d, x.state(7), d >= day ? 3 : 0);
                }
            }
        });
    }

    private static int snowBehind(int weather, int snow) {
        BrokenLoaves x = new BrokenLoaves();
        x.weather(0, weather);
        x.house(0, snow);
        x.day();
        return x.state(7);
    }

    private void snow() {
        says(6, "4 times its FORCE (0 to 3), and its WAY (0 snows, 1 thaws, 2 blows, 3 none)", () -> {
            for (int force = 0; force <= 3; force++) {
                is("snows by " + force, snowBehind(4 * force, 5), 5 + force);
                is("thaws by " + force, snowBehind(4 * force + 1, 5), 5 - force);
                is("blows to 5 by " + force, snowBehind(4 * force + 2, 0), force);
                is("none", snowBehind(4 * force + 3, 7), 7);
            }
        });
        says(6, "SNOW is more, less by FORCE (0 to 9 held)", () -> {
            for (int force = 0; force <= 3; force++) {
                for (int snow = 0; snow <= 9; snow++) {
                    is(snow + " more by " + force, snowBehind(4 * force, snow), Math.min(9, snow + force));
                    is(snow + " less by " + force, snowBehind(4 * force + 1, snow), Math.max(0, snow - force));
                }
            }
        });
        says(6, "or nearer to 5 by FORCE, not beyond.", () -> {
            int[][] behind = {{0, 1, 2, 3, 4, 5, 6, 7, 8, 9}, {1, 2, 3, 4, 5, 5, 5, 6, 7, 8}, {2, 3, 4, 5, 5, 5, 5, 5, 6, 7}, {3, 4, 5, 5, 5, 5, 5, 5, 5, 6}};
            for (int force = 0; force <= 3; force++) {
                for (int snow = 0; snow <= 9; snow++) is(snow + " by " + force, snowBehind(4 * force + 2, snow), behind[force][snow]);
            }
        });
    }

    private void gates() {
        says(7, "DUST of a GATE (what 0)", () -> {
            for (int g = 0; g < 6; g++) {
                int of = g;
                held(0, 9, EMPTY, (x, v) -> x.gate(of, 0, v), x -> x.gateOf(of, 0));
            }
            is("what it was", Check.five().gate(1, 0, 0), 5);
        });
        says(7, "by how much SNOW it TAKES people (1) becomes v: what it was.", () -> {
            for (int g = 0; g < 6; g++) {
                int of = g;
                held(0, 9, EMPTY, (x, v) -> x.gate(of, 1, v), x -> x.gateOf(of, 1));
            }
            is("what it was", Check.five().gate(2, 1, 0), 3);
        });
        says(7, "GATES 0 to 5 each have DUST", () -> {
            BrokenLoaves x = new BrokenLoaves();
            for (int g = 0; g < 6; g++) {
                x.gate(g, 0, 9 - g);
                x.gate(g, 1, g);
            }
            for (int g = 0; g < 6; g++) {
                is("DUST of its own", x.gateOf(g, 0), 9 - g);
                is("TAKES by its own", x.gateOf(g, 1), g);
            }
        });
        says(7, "BAD.", () -> {
            for (int w = 0; w <= 1; w++) {
                int what = w;
                range(0, 5, BUSY, (x, v) -> x.gate(v, what, 1));
                outside(0, 9, BUSY, (x, v) -> x.gate(2, what, v));
            }
            range(0, 1, BUSY, (x, v) -> x.gate(2, v, 1));
        });
        says(8, "Of a GATE: what = 0 DUST, 1 by how much SNOW it TAKES people. BAD.", () -> {
            range(0, 5, BUSY, (x, v) -> x.gateOf(v, 0));
            range(0, 5, BUSY, (x, v) -> x.gateOf(v, 1));
            range(0, 1, BUSY, (x, v) -> x.gateOf(2, v));
            asks(5, BUSY, x -> x.gateOf(1, 0));
            asks(3, BUSY, x -> x.gateOf(2, 1));
        });
    }

    private void house() {
        says(9, "SNOW (what 0)", () -> {
            held(0, 9, BUSY, (x, v) -> x.house(0, v), x -> x.state(7));
            BrokenLoaves x = new BrokenLoaves();
            is("what it was", x.house(0, 9), 0);
            is("what it was then", x.house(0, 1), 9);
            is("LOAF stays", x.state(8), 12);
        });
        says(9, "LOAF (1) becomes v: what it was.", () -> {
            held(0, 999, BUSY, (x, v) -> x.house(1, v), x -> x.state(8));
            BrokenLoaves x = new BrokenLoaves();
            is("what it was", x.house(1, 999), 12);
            is("what it was then", x.house(1, 0), 999);
            is("SNOW stays", x.state(7), 0);
        });
        says(9, "BAD.", () -> {
            range(0, 1, BUSY, (x, v) -> x.house(v, 5));
            refuses(BAD, BUSY, x -> x.house(0, 10));
            is("10 parts are taken for LOAF", new BrokenLoaves().house(1, 10), 12);
        });
    }

    private void ends() {
        says(10, "END is 1 to 16", () -> {
            held(1, 16, EMPTY, (x, v) -> x.ends(v), x -> x.state(1));
            is("what it was", new BrokenLoaves().ends(1), 12);
            outside(1, 16, BUSY, (x, v) -> x.ends(v));
        });
        says(10, "STATE: v is below DAY.", () -> {
            is("END on DAY", BUSY.make().ends(2), 12);
            is("one more", BUSY.make().ends(3), 12);
            refuses(STATE, BUSY, x -> x.ends(1));
            refuses(STATE, OVER, x -> x.ends(1));
            BrokenLoaves x = Roads.goneBy(new BrokenLoaves(), 16);
            is("15 on DAY 16", x.ends(15), STATE);
            is("16 on DAY 16", x.ends(16), 16);
        });
        says(10, "BAD; STATE", () -> {
            refuses(BAD, BUSY, x -> x.ends(0));
            refuses(BAD, BUSY, x -> x.ends(-1));
            refuses(BAD, OVER, x -> x.ends(17));
        });
        says(10, "from END on it is OVER", () -> {
            BrokenLoaves x = BUSY.make();
            x.ends(3);
            is("DAY 2 of 3", x.state(3), 0);
            x.ends(2);
            is("DAY 2 of 2", x.state(3), 1);
            is("no DAY goes by", x.day(), STATE);
            x.ends(3);
            is("not OVER any more", x.state(3), 0);
            is("one DAY more", x.day() >= 0 ? 1 : 0, 1);
            is("OVER again", x.day(), STATE);
        });
    }

    private void anew() {
        says(11, "DAY is 0 again, SCORE 0, SNOW 0, LOAF 12, nobody is MET, FED: what DAY was.", () -> {
            BrokenLoaves x = BUSY.make();
            x.change(4, 4, 9);
            x.change(4, 5, 1);
            x.house(0, 9);
            x.house(1, 999);
            is("what DAY was", x.anew(), 2);
            int[] due = {0, 12, 0, 0, 0, 0, 4, 0, 12};
            for (int what = 0; what < 9; what++) is("state " + what, x.state(what), due[what]);
            for (int k = 0; k < 5; k++) {
                is("MET of " + k, x.personOf(k, 4), 0);
                is("FED of " + k, x.personOf(k, 5), 0);
            }
        });
        says(11, "what DAY was", () -> {
            is("DAY 0", new BrokenLoaves().anew(), 0);
            is("DAY 16, OVER", Roads.goneBy(new BrokenLoaves(), 16).anew(), 16);
        });
        says(11, "DAY is 0 again", () -> {
            BrokenLoaves x = OVER.make();
            x.anew();
            int[][] people = {{1, 14, 8, 0}, {2, 16, 9, 1}, {4, 20, 5, 2}, {5, 25, 6, 0}, {3, 18, 9, 1}};
            for (int k = 0; k < 5; k++) {
                for (int what = 0; what < 4; what++) is("a PERSON stays", x.personOf(k, what), people[k][what]);
            }
            is("END stays", x.state(1), 2);
            int[] many = {5, 2, 0, 2, 2, 0, 11};
            for (int what = 0; what < 7; what++) is("many " + what, x.many(what), many[what]);
            is("WEATHER stays", x.weather(3, 0), 14);
            is("GATES stay", x.gateOf(1, 0), 5);
            is("GATES take as before", x.gateOf(2, 1), 3);
            is("z goes on", x.seed(0), 1 * 1103515245 + 12345);
        });
    }

    private void state() {
        says(12, "BAD.", () -> range(0, 8, BUSY, (x, v) -> x.state(v)));
        says(12, "What = 0 DAY, 1 END, 2 SCORE", () -> {
            asks(2, BUSY, x -> x.state(0));
            asks(12, BUSY, x -> x.state(1));
            BrokenLoaves x = Check.five();
            int score = 0;
            for (int d = 0; d < 12; d++) {
                score += x.day();
                is("SCORE behind DAY " + d, x.state(2), score);
            }
        });
        says(12, "3 1 if it is OVER, else 0", () -> {
            for (int end = 1; end <= 16; end++) {
                BrokenLoaves x = new BrokenLoaves();
                x.ends(end);
                for (int d = 0; d <= end; d++) {
                    is("DAY " + d + " of " + end, x.state(3), d < end ? 0 : 1);
                    x.day();
                }
                is("DAY does not go on", x.state(0), end);
            }
        });
        says(12, "4 PEOPLE that were MET, 5 PEOPLE that are FED, as sets", () -> {
            BrokenLoaves x = Roads.people(6);
            int met = 0;
            int fed = 0;
            for (int k = 0; k < 6; k++) {
                x.change(k, 4, k == 0 ? 1 : 9);
                x.change(5 - k, 5, 1);
                met |= 1 << k;
                fed |= 1 << (5 - k);
                is("MET", x.state(4), met);
                is("FED", x.state(5), fed);
            }
            is("nobody, if there is nobody", new BrokenLoaves().state(4) + new BrokenLoaves().state(5), 0);
        });
        says(12, "6 WEATHER of DAY (0 behind DAY 15)", () -> {
            BrokenLoaves x = new BrokenLoaves();
            x.ends(16);
            for (int d = 0; d < 16; d++) x.weather(d, 15 - d % 8);
            for (int d = 0; d < 16; d++) {
                is("on DAY " + d, x.state(6), 15 - d % 8);
                x.day();
            }
            is("behind DAY 15", x.state(6), 0);
            is("of DAY, though it is OVER", OVER.make().state(6), 4);
        });
        says(12, "7 SNOW, 8 LOAF", () -> {
            BrokenLoaves x = new BrokenLoaves();
            x.house(0, 9);
            x.house(1, 999);
            is("SNOW", x.state(7), 9);
            is("LOAF", x.state(8), 999);
        });
    }
}

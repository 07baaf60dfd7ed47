/** Boundaries of promises 52 and 53: keep, again. */
final class KeptEdges extends Edge {
    void all() {
        keep();
        notKept();
        again();
    }

    private void keep() {
        says(52, "is kept: 1.", () -> {
            for (Maker maker : new Maker[] {EMPTY, BUSY, CROWDED, OVER}) {
                is("keep", maker.make().keep(), 1);
                BrokenLoaves x = maker.make();
                x.keep();
                x.keep();
                is("kept twice", x.again(), maker.make().many(0));
            }
        });
        says(52, "All but THE TAPE, ROWS, SHEETS, SHELVES, THE TRACE is kept", () -> {
            for (Maker maker : new Maker[] {EMPTY, UNTAPED, Roads.CROWDED_UNTAPED, OVER}) {
                BrokenLoaves x = maker.make();
                x.keep();
                upsideDown(x);
                x.again();
                BrokenLoaves same = maker.make();
                same.keep();
                // what is not kept is made alike, so that all the rest is looked at
                alike(x);
                alike(same);
                Check.same("52 all is as it was", Portrait.of(x), Portrait.of(same));
            }
        });
    }

    /** All that is kept becomes another: numbers that no road here has, kinds and FED turned around. */
    private static void upsideDown(BrokenLoaves x) {
        x.person(4, 3, 2, 1);
        int people = x.many(0);
        for (int k = 0; k < people; k++) {
            x.change(k, 1, 33);
            x.change(k, 2, 1);
            x.change(k, 3, 4);
            x.change(k, 4, 8);
            x.change(k, 5, k < 2 ? 0 : 1);
            x.remake(k, 1 + (k + 2) % 5);
        }
        for (int d = 0; d < 16; d++) x.weather(d, 13);
        for (int g = 0; g < 6; g++) {
            x.gate(g, 0, 8);
            x.gate(g, 1, 1);
        }
        x.house(0, 8);
        x.house(1, 777);
        x.ends(16);
        x.lot();
        x.forget();
        x.report(0, 1, 3, 3);
        Check.rules(x, "person if number<3 shut; person pass;");
    }

    private static void alike(BrokenLoaves x) {
        x.prove(0);
        for (int s = 0; s < 4; s++) {
            x.sheet(s, -1, 0);
            x.shelf(s, 2, 0);
        }
        x.act(-1, 0, 0);
    }

    private void notKept() {
        says(52, "All but THE TAPE", () -> {
            BrokenLoaves x = BUSY.make();
            x.keep();
            Check.tape(x, "ss;");
            x.again();
            is("bytes", x.many(5), 12);
            is("they tell", x.rules(), 1);
            is("the RULES in place of the kept ones", x.many(1), 1);
            x.again();
            is("the kept ones", x.many(1), 2);
            is("THE TAPE stays used up", x.many(5), 0);
        });
        says(52, "ROWS, SHEETS, SHELVES, THE TRACE", () -> {
            BrokenLoaves x = BUSY.make();
            x.keep();
            x.prove(4);
            x.alterRow(3, 2, -7);
            x.sheet(3, 3, 2);
            x.write(3, 1, 99);
            x.shelf(2, 1, 3);
            x.shelf(0, 0, 3);
            x.act(0, 2, 5);
            x.again();
            is("ROWS", x.many(4), 4);
            is("a ROW", x.row(3, 2), -7);
            is("a SHEET", x.item(3, 3, 1), 99);
            is("a SHELF", x.taken(2, 13), 2);
            is("a PERSON on a SHELF", x.taken(0, 5), 3);
            is("THE TRACE", x.many(6), 4);
            is("its first body", x.trace(0), 61);
        });
    }

    private void again() {
        says(53, "NONE: nothing is kept.", () -> {
            refuses(NONE, EMPTY, BrokenLoaves::again);
            Maker people = () -> Roads.people(6);
            refuses(NONE, people, BrokenLoaves::again);
        });
        says(53, "how many PEOPLE", () -> {
            for (int count = 0; count <= 6; count++) {
                BrokenLoaves x = Roads.people(count);
                x.keep();
                x.person(1, 1, 1, 1);
                is("PEOPLE", x.again(), count);
                is("no more", x.many(0), count);
                is("none behind the last", x.personOf(count, 0), BAD);
                is("room for one more", x.person(1, 1, 1, 1), count == 6 ? FULL : count);
                is("it is new: MET", count == 6 ? 0 : x.personOf(count, 4), 0);
                is("it is new: FED", count == 6 ? 0 : x.personOf(count, 5), 0);
            }
        });
        says(53, "It becomes what was kept latest (which stays)", () -> {
            BrokenLoaves x = Roads.people(1);
            x.keep();
            x.person(1, 1, 1, 1);
            x.keep();
            x.person(1, 1, 1, 1);
            for (int i = 0; i < 3; i++) {
                is("the latest", x.again(), 2);
                x.change(0, 1, i);
                x.day();
                x.person(2, 2, 2, 2);
            }
            is("it stays", x.again(), 2);
            is("NEED", x.personOf(0, 1), 10);
            is("DAY", x.state(0), 0);
        });
        says(53, "which stays", () -> {
            BrokenLoaves x = Roads.people(3);
            x.change(2, 4, 9);
            x.change(2, 5, 1);
            x.keep();
            x.again();
            x.change(2, 4, 0);
            x.change(2, 5, 0);
            x.again();
            is("MET", x.personOf(2, 4), 9);
            is("FED", x.personOf(2, 5), 1);
            // a person that comes behind again() is not one that came once and is gone
            x.person(3, 60, 9, 5);
            x.change(3, 4, 9);
            x.change(3, 5, 1);
            x.again();
            x.person(1, 1, 1, 1);
            is("MET of a new one", x.personOf(3, 4), 0);
            is("FED of a new one", x.personOf(3, 5), 0);
            is("KIND of a new one", x.personOf(3, 0), 1);
        });
    }
}

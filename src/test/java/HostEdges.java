/** Boundaries of promises 42 to 51: sheets, shelves, acts, the trace, how many. */
final class HostEdges extends Edge {
    private static final int[] FAR = {Integer.MIN_VALUE, Integer.MIN_VALUE + 1, Integer.MAX_VALUE - 19, Integer.MAX_VALUE};

    void all() {
        sheet();
        sheetRefused();
        write();
        writeRefused();
        item();
        goAll();
        goAllRefused();
        goAllOutside();
        wouldBe();
        wouldBeRefused();
        shelf();
        taken();
        takenRows();
        act();
        bodies();
        parted();
        trace();
        many();
    }

    private static BrokenLoaves sheetOf(int sort, int n) {
        BrokenLoaves x = new BrokenLoaves();
        x.sheet(1, sort, n);
        return x;
    }

    private void sheet() {
        says(42, "SHEETS 0 to 3", () -> {
            range(0, 3, BUSY, (x, v) -> x.sheet(v, 0, 1));
            outside(0, 3, BUSY, (x, v) -> x.sheet(v, -1, 1));
            BrokenLoaves x = new BrokenLoaves();
            for (int s = 0; s < 4; s++) {
                x.sheet(s, s, s + 1);
                x.write(s, s, 50 + s);
            }
            for (int s = 0; s < 4; s++) {
                is("its own items", x.item(s, s, s), 50 + s);
                is("its own length", x.item(s, s, s + 1), -12);
            }
        });
        says(42, "A SHEET becomes a row of n of a sort, all 0, or missing", () -> {
            for (int sort = 0; sort <= 4; sort++) {
                for (int n : new int[] {0, 1, 39, 40}) {
                    BrokenLoaves x = new BrokenLoaves();
                    x.sheet(0, 2, 40);
                    for (int i = 0; i < 40; i++) x.write(0, i, -1);
                    is("n " + n, x.sheet(0, sort, n), 1);
                    for (int i = 0; i < n; i++) is("item " + i, x.item(0, sort, i), 0);
                    is("behind the last", x.item(0, sort, n), -12);
                }
            }
            BrokenLoaves x = sheetOf(0, 3);
            x.write(1, 2, 9);
            x.sheet(1, 0, 3);
            is("a row like the one ahead of it, all 0", x.item(1, 0, 2), 0);
            x.write(1, 2, 9);
            x.sheet(1, 0, 1);
            x.sheet(1, 0, 3);
            is("longer again, all 0", x.item(1, 0, 2), 0);
        });
        says(42, "missing (sort -1; n counts nothing then): 1.", () -> {
            for (int n : new int[] {0, 1, 40, 41, -1, Integer.MIN_VALUE, Integer.MAX_VALUE}) {
                BrokenLoaves x = sheetOf(0, 3);
                is("n " + n, x.sheet(1, -1, n), 1);
                is("missing", x.item(1, 0, 0), -11);
                is("missing, once more", x.sheet(1, -1, n), 1);
                is("missing still", x.write(1, 0, 0), -11);
            }
        });
    }

    private void sheetRefused() {
        says(42, "bytes (sort 0), shorts (1), ints (2), longs (3) or booleans (4)", () -> range(-1, 4, BUSY, (x, v) -> x.sheet(0, v, 1)));
        says(42, "40 at most", () -> {
            for (int sort = 0; sort <= 4; sort++) {
                int of = sort;
                is("40", sheetOf(sort, 40).item(1, sort, 39), 0);
                for (int n : new int[] {41, 42, 256, 65536, Integer.MAX_VALUE}) refuses(BAD, BUSY, x -> x.sheet(0, of, n));
            }
        });
        says(42, "-14 a size below 0", () -> {
            for (int sort = 0; sort <= 4; sort++) {
                int of = sort;
                for (int n : new int[] {-1, -2, -41, Integer.MIN_VALUE}) refuses(-14, BUSY, x -> x.sheet(0, of, n));
                is("0 is none", new BrokenLoaves().sheet(0, sort, 0), 1);
            }
        });
        says(42, "BAD: no such SHEET, sort, n above 40; -14.", () -> {
            // whatever the SHEET is: bytes, shorts, a row of none, missing
            for (int s = 0; s < 4; s++) {
                int sheet = s;
                refuses(BAD, BUSY, x -> x.sheet(sheet, 2, 41));
                refuses(-14, BUSY, x -> x.sheet(sheet, 2, -1));
                outside(-1, 4, BUSY, (x, v) -> x.sheet(sheet, v, 1));
            }
            refuses(BAD, BUSY, x -> x.sheet(4, 0, -1));
            refuses(BAD, BUSY, x -> x.sheet(-1, 0, -1));
            refuses(BAD, BUSY, x -> x.sheet(0, 5, -1));
            refuses(BAD, BUSY, x -> x.sheet(0, -2, -1));
        });
    }

    private static int written(int sort, int v) {
        BrokenLoaves x = sheetOf(sort, 1);
        is("written", x.write(1, 0, v), 1);
        return x.item(1, sort, 0);
    }

    private void write() {
        says(43, "Item i becomes v, narrowed to its sort", () -> {
            int[][] bytes = {{127, 127}, {128, -128}, {-128, -128}, {-129, 127}, {255, -1}, {256, 0}, {-256, 0}, {Integer.MAX_VALUE, -1}, {Integer.MIN_VALUE, 0}};
            for (int[] b : bytes) is("byte " + b[0], written(0, b[0]), b[1]);
            int[][] shorts = {{32767, 32767}, {32768, -32768}, {-32768, -32768}, {-32769, 32767}, {65535, -1}, {65536, 0}, {Integer.MAX_VALUE, -1}, {Integer.MIN_VALUE, 0}};
            for (int[] s : shorts) is("short " + s[0], written(1, s[0]), s[1]);
            for (int v : new int[] {0, 1, -1, 65536, Integer.MAX_VALUE, Integer.MIN_VALUE, -11, -12, -13}) {
                is("int " + v, written(2, v), v);
                is("long " + v, written(3, v), v);
            }
        });
        says(43, "(booleans: whether it is not 0)", () -> {
            for (int v : new int[] {1, -1, 2, 256, 65536, Integer.MAX_VALUE, Integer.MIN_VALUE}) is("" + v, written(4, v), 1);
            is("0", written(4, 0), 0);
            BrokenLoaves x = sheetOf(4, 1);
            x.write(1, 0, 5);
            x.write(1, 0, 0);
            is("0 again", x.item(1, 4, 0), 0);
        });
        says(43, "Item i becomes v", () -> {
            for (int sort = 0; sort <= 4; sort++) {
                BrokenLoaves x = sheetOf(sort, 40);
                is("the first", x.write(1, 0, 1), 1);
                is("the last", x.write(1, 39, 1), 1);
                for (int i = 0; i < 40; i++) is("item " + i, x.item(1, sort, i), i == 0 || i == 39 ? 1 : 0);
            }
        });
    }

    private void writeRefused() {
        says(43, "BAD: no such SHEET; -11; -12.", () -> {
            outside(0, 3, BUSY, (x, v) -> x.write(v, 0, 1));
            for (int i : new int[] {0, -1, 40}) refuses(-11, BUSY, x -> x.write(3, i, 1));
            refuses(-11, EMPTY, x -> x.write(0, 0, 0));
        });
        says(43, "-12 a place outside", () -> {
            for (int i : new int[] {-1, 4, 5, 39, 40, Integer.MIN_VALUE, Integer.MAX_VALUE}) refuses(-12, BUSY, x -> x.write(0, i, 9));
            for (int i : new int[] {-1, 0, 1}) refuses(-12, BUSY, x -> x.write(2, i, 9));
            for (int sort = 0; sort <= 4; sort++) {
                is("behind 40", sheetOf(sort, 40).write(1, 40, 1), -12);
                is("ahead of 0", sheetOf(sort, 40).write(1, -1, 1), -12);
            }
        });
    }

    private void item() {
        says(44, "Item i, taken for a sort (0 to 4; of longs the lowest 32 bits; of booleans 1, 0).", () -> {
            range(0, 4, BUSY, (x, v) -> x.item(0, v, 0));
            is("a long below 0", written(3, -5), -5);
            is("a boolean", written(4, -5), 1);
            asks(4, BUSY, x -> x.item(0, 0, 3));
            asks(-300, BUSY, x -> x.item(1, 1, 1));
        });
        says(44, "BAD: no such SHEET, sort; -13; -11; -12.", () -> {
            range(0, 3, BUSY, (x, v) -> x.item(v, 0, 0));
            refuses(BAD, BUSY, x -> x.item(3, 5, 0));
            refuses(BAD, BUSY, x -> x.item(3, -1, 99));
            refuses(BAD, BUSY, x -> x.item(4, 0, 99));
            for (int i : new int[] {0, 1, -1, 2, 40}) refuses(-13, BUSY, x -> x.item(1, 0, i));
            for (int i : new int[] {0, -1, 40}) refuses(-11, BUSY, x -> x.item(3, 2, i));
            for (int sort = 0; sort <= 4; sort++) {
                int of = sort;
                refuses(-11, BUSY, x -> x.item(3, of, 0));
                for (int other = 0; other <= 4; other++) is(sort + " for " + other, sheetOf(sort, 1).item(1, other, 0), sort == other ? 0 : -13);
                is("outside, and of another sort", sheetOf(sort, 1).item(1, (sort + 1) % 5, 1), -13);
                is("behind the last", sheetOf(sort, 40).item(1, sort, 40), -12);
                is("the last", sheetOf(sort, 40).item(1, sort, 39), 0);
            }
            for (int i : new int[] {-1, 4, 39, 40, Integer.MIN_VALUE, Integer.MAX_VALUE}) refuses(-12, BUSY, x -> x.item(0, 0, i));
            refuses(-12, BUSY, x -> x.item(2, 4, 0));
        });
        says(44, "(An item may be as low as these, too.)", () -> {
            for (int v : new int[] {-1, -11, -12, -13}) {
                for (int sort = 0; sort <= 3; sort++) is(v + " of sort " + sort, written(sort, v), v);
            }
        });
    }

    /** Six pilgrims on a still road, each worth 12 when told first, and their acts in sheet 0. */
    private static BrokenLoaves pilgrims(int... acts) {
        BrokenLoaves x = Roads.still();
        for (int k = 0; k < 6; k++) x.person(2, 0, 0, 0);
        Roads.acts(x, 0, acts);
        return x;
    }

    private void goAll() {
        says(45, "n (0 to 20) items of a SHEET taken for bytes, from item i on, are ACTS, each followed by a DAY", () -> {
            range(0, 20, () -> pilgrims(new int[40]), (x, v) -> x.goAll(0, 0, v));
            for (int n = 0; n <= 6; n++) {
                BrokenLoaves x = pilgrims(1, 2, 3, 4, 5, 6);
                is("WORTH of " + n, x.goAll(0, 0, n), 12 * n);
                is("DAYS", x.state(0), n);
                is("who was told", x.state(4), (1 << n) - 1);
                is("SCORE", x.state(2), 12 * n);
            }
            for (int i = 0; i < 6; i++) {
                BrokenLoaves x = pilgrims(1, 2, 3, 4, 5, 6);
                is("one item", x.goAll(0, i, 1), 12);
                is("who was told", x.state(4), 1 << i);
            }
        });
        says(45, "n (0 to 20) items", () -> {
            BrokenLoaves x = pilgrims(new int[40]);
            x.ends(16);
            is("20 from 20 on", x.goAll(0, 20, 20), 0);
            is("DAY", x.state(0), 16);
            for (int i : new int[] {0, 39, 40, 41, -1, Integer.MIN_VALUE, Integer.MAX_VALUE}) is("none, from " + i, pilgrims(1).goAll(0, i, 0), 0);
            is("none of no items", pilgrims().goAll(0, 0, 0), 0);
        });
        says(45, "(what is none, or when it is OVER, is left out)", () -> {
            BrokenLoaves x = pilgrims(1, 7, -1, 127, -128, 2, 0);
            is("what is none", x.goAll(0, 0, 7), 24);
            is("DAYS of the others", x.state(0), 3);
            x = new BrokenLoaves();
            Roads.acts(x, 0, 0, 1, 0);
            is("nobody: 1 is none", x.goAll(0, 0, 3), 0);
            is("DAYS", x.state(0), 2);
            for (int end = 1; end <= 7; end++) {
                x = pilgrims(1, 2, 3, 4, 5, 6);
                x.ends(end);
                is("END " + end, x.goAll(0, 0, 6), 12 * Math.min(6, end));
                is("DAY", x.state(0), Math.min(6, end));
            }
            asks(0, OVER, y -> y.goAll(0, 0, 4));
        });
    }

    private void goAllRefused() {
        says(45, "BAD: no such SHEET, n; -13; -11; -12", () -> {
            outside(0, 3, BUSY, (x, v) -> x.goAll(v, 0, 1));
            outside(0, 20, BUSY, (x, v) -> x.goAll(0, 0, v));
            outside(0, 20, BUSY, (x, v) -> x.goAll(1, 0, v));
            outside(0, 20, BUSY, (x, v) -> x.goAll(3, 0, v));
            for (int n : new int[] {0, 1, 20}) {
                refuses(-13, BUSY, x -> x.goAll(1, 0, n));
                refuses(-13, BUSY, x -> x.goAll(1, 99, n));
                refuses(-13, BUSY, x -> x.goAll(2, 0, n));
                refuses(-11, BUSY, x -> x.goAll(3, 0, n));
                refuses(-11, BUSY, x -> x.goAll(3, 99, n));
                refuses(-11, OVER, x -> x.goAll(3, 0, n));
            }
            for (int sort = 1; sort <= 4; sort++) is("sort " + sort, sheetOf(sort, 4).goAll(1, 0, 1), -13);
        });
    }

    private void goAllOutside() {
        says(45, "-12: what stood ahead was done.", () -> {
            for (int i = 0; i <= 3; i++) {
                BrokenLoaves x = pilgrims(1, 2, 3);
                Edge.refusesOf(-12, x.goAll(0, i, 4 - i));
                is("DAYS from " + i, x.state(0), 3 - i);
                is("SCORE", x.state(2), 12 * (3 - i));
                is("who was told", x.state(4), 7 >> i << i);
            }
            BrokenLoaves x = pilgrims(1, 2, 3);
            is("just to the last", x.goAll(0, 1, 2), 24);
            x = pilgrims(new int[40]);
            is("behind 40", x.goAll(0, 39, 2), -12);
            is("the last was done", x.state(0), 1);
            for (int i : new int[] {-1, 4, 5, 40}) refuses(-12, BUSY, y -> y.goAll(0, i, 1));
            for (int i : FAR) refuses(-12, BUSY, y -> y.goAll(0, i, 20));
            refuses(-12, BUSY, y -> y.goAll(0, -1, 3));
        });
        says(45, "when it is OVER, is left out", () -> {
            refuses(-12, OVER, x -> x.goAll(0, 4, 1));
            refuses(-12, OVER, x -> x.goAll(0, 0, 5));
        });
    }

    private void wouldBe() {
        says(46, "n (0 to 20) items likewise: what they would be WORTH.", () -> {
            range(0, 4, BUSY, (x, v) -> x.wouldBe(v == 4 ? 0 : v, 0, 0));
            for (int n = 0; n <= 6; n++) is("WORTH of " + n, pilgrims(1, 2, 3, 4, 5, 6).wouldBe(0, 0, n), 12 * n);
            asks(BUSY, x -> x.wouldBe(0, 0, 4));
            asks(BUSY, x -> x.wouldBe(0, 3, 1));
            BrokenLoaves x = pilgrims(new int[40]);
            x.ends(16);
            is("16 DAYS", x.wouldBe(0, 24, 16), 0);
            is("17 DAYS", x.wouldBe(0, 20, 17), STATE);
            is("20 DAYS", x.wouldBe(0, 20, 20), STATE);
            for (int i : new int[] {0, 40, -1, Integer.MIN_VALUE, Integer.MAX_VALUE}) is("none, from " + i, pilgrims(1).wouldBe(0, i, 0), 0);
        });
        says(46, "BAD: no such SHEET, n; -13; -11", () -> {
            outside(0, 3, BUSY, (x, v) -> x.wouldBe(v, 0, 1));
            outside(0, 20, BUSY, (x, v) -> x.wouldBe(0, 0, v));
            outside(0, 20, BUSY, (x, v) -> x.wouldBe(1, 0, v));
            outside(0, 20, BUSY, (x, v) -> x.wouldBe(3, 0, v));
            for (int n : new int[] {0, 1, 20}) {
                refuses(-13, BUSY, x -> x.wouldBe(1, 0, n));
                refuses(-13, BUSY, x -> x.wouldBe(1, 99, n));
                refuses(-13, OVER, x -> x.wouldBe(2, 0, n));
                refuses(-11, BUSY, x -> x.wouldBe(3, 0, n));
                refuses(-11, OVER, x -> x.wouldBe(3, 99, n));
            }
            for (int sort = 1; sort <= 4; sort++) is("sort " + sort, sheetOf(sort, 4).wouldBe(1, 0, 1), -13);
        });
    }

    private void wouldBeRefused() {
        says(46, "STATE: one is no ACT, or it would be OVER ahead of it.", () -> {
            for (int act : new int[] {-1, 7, 127, -128}) is("ACT " + act, pilgrims(act).wouldBe(0, 0, 1), STATE);
            for (int act : new int[] {0, 1, 6}) is("ACT " + act, pilgrims(act).wouldBe(0, 0, 1), act == 0 ? 0 : 12);
            is("nobody: 1 is none", noOne(1).wouldBe(0, 0, 1), STATE);
            is("nobody: 0 is one", noOne(0).wouldBe(0, 0, 1), 0);
            for (int end = 1; end <= 7; end++) {
                BrokenLoaves x = pilgrims(1, 2, 3, 4, 5, 6);
                x.ends(end);
                is("6 DAYS, END " + end, x.wouldBe(0, 0, 6), end < 6 ? STATE : 72);
                is("just till END", x.wouldBe(0, 0, Math.min(6, end)), 12 * Math.min(6, end));
            }
            refuses(STATE, OVER, x -> x.wouldBe(0, 0, 1));
            asks(0, OVER, x -> x.wouldBe(0, 0, 0));
        });
        says(46, "then, by items, -12; STATE", () -> {
            for (int i : new int[] {-1, 4, 5, 40}) refuses(-12, BUSY, x -> x.wouldBe(0, i, 1));
            for (int i : FAR) refuses(-12, BUSY, x -> x.wouldBe(0, i, 20));
            refuses(-12, BUSY, x -> x.wouldBe(0, 0, 5));
            refuses(-12, OVER, x -> x.wouldBe(0, 4, 1));
            refuses(STATE, OVER, x -> x.wouldBe(0, 3, 2));
            is("no ACT, then outside", pilgrims(1, 7).wouldBe(0, 0, 3), STATE);
            is("outside, behind ACTS", pilgrims(1, 2).wouldBe(0, 0, 3), -12);
            is("outside at first", pilgrims(7, 7).wouldBe(0, -1, 3), -12);
            BrokenLoaves x = pilgrims(1, 2);
            x.ends(2);
            is("an item outside, and OVER ahead of it", x.wouldBe(0, 0, 3), -12);
            x.ends(1);
            is("OVER ahead of one that is there", x.wouldBe(0, 0, 3), STATE);
        });
    }

    private static BrokenLoaves noOne(int... acts) {
        BrokenLoaves x = new BrokenLoaves();
        Roads.acts(x, 0, acts);
        return x;
    }

    private void shelf() {
        says(47, "SHELVES 0 to 3", () -> {
            range(0, 3, BUSY, (x, v) -> x.shelf(v, 0, 0));
            outside(0, 3, BUSY, (x, v) -> x.shelf(v, 1, 0));
            outside(0, 3, BUSY, (x, v) -> x.shelf(v, 2, 0));
            BrokenLoaves x = Roads.people(6);
            for (int s = 0; s < 4; s++) is("put", x.shelf(s, 0, s + 2), 1);
            for (int s = 0; s < 4; s++) is("its own", x.taken(s, 0), s + 2);
        });
        says(47, "BAD: no such SHELF, what, thing.", () -> {
            range(0, 2, BUSY, (x, v) -> x.shelf(2, v, 0));
            range(0, 4, BUSY, (x, v) -> x.shelf(0, 0, v));
            range(0, 5, CROWDED, (x, v) -> x.shelf(0, 0, v));
            range(0, 3, BUSY, (x, v) -> x.shelf(0, 1, v));
            // whatever the SHELF holds: a PERSON, a row, nothing, another PERSON
            for (int s = 0; s < 4; s++) {
                int shelf = s;
                outside(0, 4, BUSY, (x, v) -> x.shelf(shelf, 0, v));
                outside(0, 3, BUSY, (x, v) -> x.shelf(shelf, 1, v));
                outside(0, 2, BUSY, (x, v) -> x.shelf(shelf, v, 0));
            }
            refuses(BAD, EMPTY, x -> x.shelf(0, 0, 0));
        });
        says(47, "nothing (2): 1.", () -> {
            for (int n : new int[] {0, -1, 4, 5, 6, Integer.MIN_VALUE, Integer.MAX_VALUE}) {
                BrokenLoaves x = BUSY.make();
                is("n counts nothing", x.shelf(0, 2, n), 1);
                is("nothing", x.taken(0, 0), -11);
            }
        });
        says(47, "the row of SHEET n (1; nothing, if missing)", () -> {
            BrokenLoaves x = BUSY.make();
            is("missing", x.shelf(0, 1, 3), 1);
            is("nothing", x.taken(0, 0), -11);
            is("nothing", x.taken(0, 10), -11);
            is("a row of none", x.shelf(0, 1, 2), 1);
            is("none", x.taken(0, 14), 0);
        });
    }

    private void taken() {
        says(48, "taken for a thing of KIND as (0 to 5, or one under it): its number", () -> {
            boolean[][] is = new boolean[6][6];
            for (int kind = 0; kind < 6; kind++) is[kind][0] = is[kind][kind] = true;
            is[3][2] = is[5][4] = true;
            for (int kind = 1; kind <= 5; kind++) {
                for (int k = 0; k < 6; k++) {
                    BrokenLoaves x = Roads.people(6);
                    x.remake(k, kind);
                    x.shelf(3, 0, k);
                    for (int as = 0; as <= 5; as++) is("KIND " + kind + " for " + as, x.taken(3, as), is[kind][as] ? k : -13);
                    for (int as = 10; as <= 14; as++) is("for a row", x.taken(3, as), -13);
                }
            }
        });
        says(48, "BAD: no such SHELF, as; -13; -11.", () -> {
            range(0, 3, BUSY, (x, v) -> x.taken(v, 0));
            for (int as : new int[] {-1, 6, 7, 8, 9, 15, 16, Integer.MIN_VALUE, Integer.MAX_VALUE, 256}) {
                for (int s = 0; s < 4; s++) {
                    int shelf = s;
                    refuses(BAD, BUSY, x -> x.taken(shelf, as));
                }
            }
            refuses(-13, BUSY, x -> x.taken(0, 1));
            refuses(-13, BUSY, x -> x.taken(0, 10));
            refuses(-13, BUSY, x -> x.taken(1, 0));
            refuses(-13, BUSY, x -> x.taken(1, 11));
            for (int as : new int[] {0, 1, 2, 3, 4, 5, 10, 11, 12, 13, 14}) refuses(-11, BUSY, x -> x.taken(2, as));
            asks(1, BUSY, x -> x.taken(0, 2));
            asks(4, BUSY, x -> x.taken(1, 10));
        });
        says(48, "(by its number; nothing, if there is no such one at the time)", () -> {
            BrokenLoaves x = Roads.people(2);
            x.keep();
            x.person(1, 1, 1, 1);
            x.shelf(0, 0, 2);
            is("there", x.taken(0, 0), 2);
            x.again();
            for (int as : new int[] {0, 1, 10}) is("not there", x.taken(0, as), -11);
            is("no act", x.act(0, 0, 5), 0);
            x.person(5, 1, 1, 1);
            is("one of that number again", x.taken(0, 4), 2);
            is("of its own KIND", x.taken(0, 1), -13);
        });
    }

    private void takenRows() {
        says(48, "for a row of sort as - 10 (as 10 to 14): how many items", () -> {
            for (int sort = 0; sort <= 4; sort++) {
                for (int n : new int[] {0, 1, 40}) {
                    BrokenLoaves x = sheetOf(sort, n);
                    x.shelf(2, 1, 1);
                    for (int as = 10; as <= 14; as++) is("sort " + sort + " for " + as, x.taken(2, as), as == 10 + sort ? n : -13);
                    for (int as = 0; as <= 5; as++) is("for a thing", x.taken(2, as), -13);
                }
            }
        });
        says(48, "a SHEET's row", () -> {
            BrokenLoaves x = sheetOf(0, 7);
            x.shelf(2, 1, 1);
            x.sheet(1, 2, 5);
            is("the row that it was put with", x.taken(2, 10), 7);
            x.sheet(1, -1, 0);
            is("though its SHEET is missing", x.taken(2, 10), 7);
            x.shelf(2, 1, 1);
            is("nothing, put anew", x.taken(2, 10), -11);
        });
    }

    private void act() {
        says(49, "0, and no TRACE then: no such SHELF, act, nothing, a row.", () -> {
            int[][] none = {{-1, 0}, {4, 0}, {Integer.MIN_VALUE, 0}, {Integer.MAX_VALUE, 0}, {0, -1}, {0, 4}, {0, Integer.MIN_VALUE},
                {0, Integer.MAX_VALUE}, {2, 0}, {2, 3}, {1, 0}, {1, 3}};
            for (int[] n : none) {
                BrokenLoaves x = BUSY.make();
                is("a TRACE from before", x.many(6), 11);
                is("SHELF " + n[0] + ", act " + n[1], x.act(n[0], n[1], 7), 0);
                is("no TRACE", x.many(6), 0);
                is("no body", x.trace(0), NONE);
            }
        });
        says(49, "An ACT (0 to 3) of the thing on a SHELF, with x.", () -> {
            int[] bodies = {10, 30, 12, 13};
            for (int act = 0; act <= 3; act++) {
                BrokenLoaves x = BUSY.make();
                x.act(0, act, 7);
                is("the body that began first", x.trace(0), bodies[act]);
            }
            for (int s = 0; s < 4; s++) {
                BrokenLoaves x = Roads.people(6);
                x.shelf(s, 0, 5);
                is("SHELF " + s, x.act(s, 1, 0), (2 ^ 5) * 3);
            }
        });
    }

    /** An act of a person of a kind, by number and gate. */
    private static int did(int kind, int number, int gate, int act, int arg) {
        BrokenLoaves x = Roads.people(6);
        x.remake(number, kind);
        x.change(number, 3, gate);
        x.shelf(0, 0, number);
        return x.act(0, act, arg);
    }

    private void bodies() {
        int[] args = {0, 1, -1, 7, -7, Integer.MAX_VALUE, Integer.MIN_VALUE, Integer.MAX_VALUE - 1, Integer.MIN_VALUE + 1, 1431655766};
        says(49, "with a number x (ints that wrap)", () -> {
            for (int v : args) {
                for (int n = 0; n < 6; n++) {
                    long tramp = (int) ((long) v + 2);
                    is("tramp hails", did(1, n, 5, 0, v), (int) tramp ^ n);
                    is("tramp shares", did(1, n, 5, 1, v), (int) (((int) tramp ^ n) * 3L));
                    is("pilgrim shares", did(2, n, 5, 1, v), (int) ((v ^ n) * 3L + 5));
                    is("bishop hails", did(3, n, 5, 0, v), (int) ((long) (v ^ n) - 7));
                    is("double shares", did(5, n, 5, 1, v), (int) -((v ^ n) * 3L));
                }
            }
            is("3 times the most", did(2, 0, 0, 1, Integer.MAX_VALUE), Integer.MAX_VALUE - 2);
            is("0 less the least", did(5, 0, 0, 1, Integer.MIN_VALUE), Integer.MIN_VALUE);
        });
        says(49, "12 weighs: what x leaves by (a + 1 - n), below 0 if x is", () -> {
            for (int v : args) {
                for (int n = 0; n < 6; n++) {
                    for (int gate = 0; gate < 6; gate++) {
                        long by = gate + 1 - n;
                        if (by == 0) continue;
                        int left = (int) ((long) v - (long) v / by * by);
                        is("pilgrim, " + v + " by " + by, did(2, n, gate, 2, v), left);
                        is("friend, " + v + " by " + by, did(4, n, gate, 2, v), 2 * left);
                        is("double, " + v + " by " + by, did(5, n, gate, 2, v), 2 * left + (gate ^ n));
                    }
                }
            }
        });
        says(49, "13 blesses: shares(x) - weighs(x)", () -> {
            for (int v : args) {
                is("pilgrim", did(2, 1, 5, 3, v), (int) ((v ^ 1) * 3L + 5 - v % 5));
                is("friend", did(4, 1, 5, 3, v), (int) ((v ^ 1) * 3L - v % 5 * 2));
                int bishop = (int) (((long) (v ^ 1) - 7) * 3 + 5 - v % 5);
                is("bishop", did(3, 1, 5, 3, v), bishop ^ ((1 ^ 1) - 7) * 3 + 5);
            }
        });
    }

    private void parted() {
        says(49, "(-15 if that is 0; that is all that act() answers then)", () -> {
            for (int n = 1; n < 6; n++) {
                for (int kind = 1; kind <= 5; kind++) {
                    for (int v : new int[] {0, 1, -1, Integer.MIN_VALUE, Integer.MAX_VALUE}) {
                        Edge.refusesOf(-15, did(kind, n, n - 1, 2, v));
                        is("blesses", did(kind, n, n - 1, 3, v), -15);
                        is("hails is not parted", did(kind, n, n - 1, 0, v) == -15 ? 1 : 0, 0);
                    }
                    is("1 beside it", did(kind, n, n, 2, 0) == -15 ? 1 : 0, 0);
                    if (n > 1) is("-1 beside it", did(kind, n, n - 2, 2, 0) == -15 ? 1 : 0, 0);
                }
            }
            for (int gate = 0; gate < 6; gate++) is("number 0 is never parted by 0", did(2, 0, gate, 2, 0), 0);
            BrokenLoaves x = Roads.people(2);
            x.change(1, 3, 0);
            x.shelf(0, 0, 1);
            String before = Portrait.of(x);
            x = Roads.people(2);
            x.change(1, 3, 0);
            x.shelf(0, 0, 1);
            x.act(0, 3, 9);
            x.act(0, 9, 9);
            Check.same("49 -15 changes THE TRACE alone", Portrait.of(x), before);
        });
        says(50, "as they began (left first)", () -> {
            BrokenLoaves x = Roads.people(2);
            x.change(1, 3, 0);
            x.shelf(0, 0, 1);
            x.act(0, 3, 9);
            traced(x, 13, 30, 11, 10, 12);
            x.remake(1, 3);
            x.act(0, 3, 9);
            traced(x, 51, 13, 30, 11, 50, 10, 12);
            x.remake(1, 5);
            x.act(0, 2, 9);
            traced(x, 61, 40, 12);
        });
    }

    private static void traced(BrokenLoaves x, int... bodies) {
        is("bodies", x.many(6), bodies.length);
        for (int i = 0; i < bodies.length; i++) is("body " + i, x.trace(i), bodies[i]);
        is("behind the last", x.trace(bodies.length), NONE);
    }

    private void trace() {
        says(50, "THE TRACE's i-th body. NONE.", () -> {
            for (int i : new int[] {-1, 11, 12, 29, 30, 31, Integer.MIN_VALUE, Integer.MAX_VALUE}) refuses(NONE, BUSY, x -> x.trace(i));
            asks(51, BUSY, x -> x.trace(0));
            asks(10, BUSY, x -> x.trace(10));
            for (int i : new int[] {-1, 0, 1}) refuses(NONE, EMPTY, x -> x.trace(i));
        });
        says(50, "numbers of the bodies that ran in the latest act()", () -> {
            BrokenLoaves x = BUSY.make();
            x.act(0, 2, 7);
            traced(x, 12);
            x.act(3, 1, 7);
            traced(x, 30, 11, 50, 10);
        });
        says(50, "the first 30 are kept", () -> {
            // no act has more bodies than a bishop's fourth, so all of each are kept
            int most = 0;
            for (int kind = 1; kind <= 5; kind++) {
                for (int act = 0; act <= 3; act++) {
                    BrokenLoaves x = Roads.people(6);
                    x.remake(5, kind);
                    x.shelf(0, 0, 5);
                    x.act(0, act, 1);
                    most = Math.max(most, x.many(6));
                }
            }
            is("the most", most, 11);
            BrokenLoaves x = BUSY.make();
            traced(x, 51, 13, 30, 11, 50, 10, 12, 30, 11, 50, 10);
        });
    }

    private void many() {
        says(51, "BAD: another what.", () -> range(0, 6, BUSY, (x, v) -> x.many(v)));
        says(51, "How many: what = 0 PEOPLE, 1 RULES, 2 those FED, 3 REPORTS, 4 ROWS, 5 bytes of THE TAPE, 6 bodies of THE TRACE.", () -> {
            int[] none = new int[7];
            int[] full = {6, 8, 0, 6, 4, 200, 11};
            BrokenLoaves x = CROWDED.make();
            for (int k = 0; k < 6; k++) x.change(k, 5, 0);
            for (int what = 0; what < 7; what++) {
                is("none, " + what, new BrokenLoaves().many(what), none[what]);
                is("full, " + what, x.many(what), full[what]);
            }
            for (int k = 0; k < 6; k++) {
                x.change(5 - k, 5, 1);
                is("FED", x.many(2), k + 1);
            }
        });
    }
}

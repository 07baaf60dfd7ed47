/** Promises 42 to 51: sheets, shelves, acts, the trace, how many. */
public final class HostTest {
    public static void main(String[] args) {
        sheets();
        items();
        goAll();
        wouldBe();
        shelves();
        rowsOnShelves();
        acts();
        partedByNothing();
        noAct();
        many();
        Check.finish();
    }

    private static void sheets() {
        BrokenLoaves x = new BrokenLoaves();
        for (int s : new int[] {-1, 4}) {
            Check.due("42 no such sheet", x.sheet(s, 0, 1), -1);
            Check.due("42 no such sheet, -1", x.sheet(s, -1, 1), -1);
            Check.due("43 no such sheet", x.write(s, 0, 1), -1);
            Check.due("44 no such sheet", x.item(s, 0, 0), -1);
            Check.due("45 no such sheet", x.goAll(s, 0, 0), -1);
            Check.due("46 no such sheet", x.wouldBe(s, 0, 0), -1);
        }
        Check.due("42 sort -2", x.sheet(0, -2, 1), -1);
        Check.due("42 sort 5", x.sheet(0, 5, 1), -1);
        Check.due("42 n 41", x.sheet(0, 0, 41), -1);
        Check.due("42 n -1", x.sheet(0, 0, -1), -14);
        Check.due("42 bad ahead of -14", x.sheet(0, 5, -1), -1);
        Check.due("42 still missing", x.item(0, 0, 0), -11);
        Check.due("42 n counts nothing", x.sheet(0, -1, -7), 1);
        Check.due("42 n counts nothing", x.sheet(0, -1, 41), 1);
        for (int sort = 0; sort < 5; sort++) {
            Check.due("42 a row", x.sheet(2, sort, 40), 1);
            for (int i = 0; i < 40; i++) {
                Check.due("42 all 0", x.item(2, sort, i), 0);
                x.write(2, i, 1);
            }
            Check.due("44 outside", x.item(2, sort, 40), -12);
            Check.due("44 below", x.item(2, sort, -1), -12);
        }
        Check.due("42 an empty row", x.sheet(2, 1, 0), 1);
        Check.due("44 no items", x.item(2, 1, 0), -12);
        Check.due("43 no items", x.write(2, 0, 0), -12);
        Check.due("42 refused", x.sheet(2, 1, -5), -14);
        Check.due("42 longer: the old items are gone", x.sheet(2, 1, 40), 1);
        Check.due("42 0", x.item(2, 1, 39), 0);
        Check.due("42 missing", x.sheet(2, -1, 0), 1);
        Check.due("44 missing", x.item(2, 1, 0), -11);
    }

    private static void items() {
        BrokenLoaves x = new BrokenLoaves();
        Check.due("43 missing", x.write(0, 0, 1), -11);
        int[] values = {0, 1, -1, 127, 128, 255, 256, -129, 32767, 32768, 65536, Integer.MIN_VALUE, Integer.MAX_VALUE, -12};
        for (int sort = 0; sort < 5; sort++) {
            x.sheet(sort % 4, sort, 3);
            for (int v : values) {
                Check.due("43 write", x.write(sort % 4, 2, v), 1);
                int due = sort == 0 ? (byte) v : sort == 1 ? (short) v : sort == 4 ? (v != 0 ? 1 : 0) : v;
                Check.due("44 item of " + sort + " " + v, x.item(sort % 4, sort, 2), due);
            }
            Check.due("43 outside", x.write(sort % 4, 3, 1), -12);
            Check.due("43 below", x.write(sort % 4, -1, 1), -12);
            Check.due("43 far", x.write(sort % 4, Integer.MAX_VALUE, 1), -12);
            for (int other = 0; other < 5; other++) {
                if (other != sort) Check.due("44 another sort", x.item(sort % 4, other, 9), -13);
            }
            Check.due("44 sort -1", x.item(sort % 4, -1, 0), -1);
            Check.due("44 sort 5", x.item(sort % 4, 5, 0), -1);
        }
        Check.due("44 items by sheet", x.item(1, 1, 2), -12);
        Check.due("44 another item", x.item(1, 1, 1), 0);
    }

    private static void acts(BrokenLoaves x, int sheet, int... acts) {
        x.sheet(sheet, 0, acts.length);
        for (int i = 0; i < acts.length; i++) x.write(sheet, i, acts[i]);
    }

    private static void goAll() {
        BrokenLoaves x = Check.five();
        Check.due("45 missing", x.goAll(0, 0, 0), -11);
        Check.due("45 n ahead of missing", x.goAll(0, 0, 21), -1);
        Check.due("45 n -1", x.goAll(0, 0, -1), -1);
        x.sheet(0, 1, 4);
        Check.due("45 shorts", x.goAll(0, 0, 0), -13);
        acts(x, 0, 1, 6, -1, 2, 0, 99);
        Check.due("45 no items", x.goAll(0, 99, 0), 0);
        Check.due("45 day", x.state(0), 0);
        Check.due("45 first", x.goAll(0, 0, 1), 27);
        Check.due("45 what is no act is left out", x.goAll(0, 1, 2), 0);
        Check.due("45 day 1", x.state(0), 1);
        Check.due("45 two days", x.goAll(0, 1, 5), 26);
        Check.due("45 day 3", x.state(0), 3);
        Check.due("45 score", x.state(2), 53);
        Check.due("45 outside", x.goAll(0, 4, 3), -12);
        Check.due("45 what stood ahead was done", x.state(0), 4);
        Check.due("45 below", x.goAll(0, -1, 2), -12);
        Check.due("45 nothing ahead of that", x.state(0), 4);
        Check.due("45 far", x.goAll(0, Integer.MAX_VALUE, 20), -12);
        Check.due("45 far below", x.goAll(0, Integer.MIN_VALUE, 20), -12);
        x.ends(5);
        acts(x, 1, 0, 1, 1, 1);
        Check.due("45 left out when it is over", x.goAll(1, 0, 4), 0);
        Check.due("45 over", x.state(0), 5);
        Check.due("45 tramp was not told", x.personOf(0, 4), 1);
        Check.due("45 outside, though it is over", x.goAll(1, 3, 2), -12);
        acts(x, 2, new int[40]);
        x.anew();
        x.ends(16);
        Check.due("45 n 20", x.goAll(2, 20, 20), 0);
        Check.due("45 16 days", x.state(0), 16);
    }

    private static void wouldBe() {
        BrokenLoaves x = Check.five();
        Check.due("46 missing", x.wouldBe(0, 0, 0), -11);
        Check.due("46 n 21", x.wouldBe(0, 0, 21), -1);
        Check.due("46 n -1", x.wouldBe(0, 0, -1), -1);
        x.sheet(0, 4, 4);
        Check.due("46 booleans", x.wouldBe(0, 0, 0), -13);
        acts(x, 0, 1, 2, 5, 0, 6, 3, -1);
        Check.due("46 none", x.wouldBe(0, 50, 0), 0);
        String before = Check.portrait(x);
        Check.due("46 one", x.wouldBe(0, 0, 1), 27);
        Check.due("46 two", x.wouldBe(0, 0, 2), 53);
        Check.due("46 no act", x.wouldBe(0, 0, 5), -4);
        Check.due("46 no act, ahead of outside", x.wouldBe(0, 3, 20), -4);
        Check.due("46 no act below 0", x.wouldBe(0, 5, 2), -4);
        Check.due("46 outside first", x.wouldBe(0, 7, 1), -12);
        Check.due("46 below", x.wouldBe(0, -1, 1), -12);
        Check.same("46 changes nothing", Check.portrait(x), before);
        acts(x, 1, 1, 2, 5);
        Check.due("46 outside behind acts", x.wouldBe(1, 0, 4), -12);
        x.ends(2);
        Check.due("46 it would be over", x.wouldBe(1, 0, 3), -4);
        Check.due("46 over ahead of the third", x.wouldBe(1, 0, 2), 53);
        Check.due("46 outside is told of an item first", x.wouldBe(1, 1, 3), -12);
        Check.due("46 over ahead of outside", x.wouldBe(1, 0, 4), -4);
        x.day();
        x.day();
        Check.due("46 over", x.wouldBe(1, 0, 1), -4);
        Check.due("46 over, none", x.wouldBe(1, 0, 0), 0);
        Check.due("46 outside, over", x.wouldBe(1, 3, 1), -12);
    }

    private static void shelves() {
        BrokenLoaves x = Check.five();
        for (int s : new int[] {-1, 4}) {
            Check.due("47 no such shelf", x.shelf(s, 0, 0), -1);
            Check.due("47 no such shelf, nothing", x.shelf(s, 2, 0), -1);
            Check.due("48 no such shelf", x.taken(s, 0), -1);
        }
        Check.due("47 what -1", x.shelf(0, -1, 0), -1);
        Check.due("47 what 3", x.shelf(0, 3, 0), -1);
        Check.due("47 no such person", x.shelf(0, 0, 5), -1);
        Check.due("47 person -1", x.shelf(0, 0, -1), -1);
        Check.due("47 no such sheet", x.shelf(0, 1, 4), -1);
        Check.due("47 sheet -1", x.shelf(0, 1, -1), -1);
        for (int as : new int[] {-1, 6, 9, 15}) Check.due("48 as " + as, x.taken(0, as), -1);
        for (int as = 0; as < 15; as++) Check.due("48 nothing", x.taken(0, as), as > 5 && as < 10 ? -1 : -11);
        boolean[][] is = {{true, true, false, false, false, false}, {true, false, true, false, false, false},
            {true, false, false, false, true, false}, {true, false, false, false, true, true}, {true, false, true, true, false, false}};
        for (int k = 0; k < 5; k++) {
            Check.due("47 person", x.shelf(k % 4, 0, k), 1);
            for (int as = 0; as < 6; as++) Check.due("48 " + k + " as " + as, x.taken(k % 4, as), is[k][as] ? k : -13);
            for (int as = 10; as < 15; as++) Check.due("48 no row", x.taken(k % 4, as), -13);
        }
        x.remake(4, 1);
        Check.due("48 by its number: another kind", x.taken(0, 1), 4);
        Check.due("48 no bishop now", x.taken(0, 3), -13);
        Check.due("47 refused", x.shelf(0, 0, 7), -1);
        Check.due("48 stays", x.taken(0, 1), 4);
        Check.due("47 nothing", x.shelf(0, 2, 99), 1);
        Check.due("48 nothing", x.taken(0, 1), -11);
    }

    private static void rowsOnShelves() {
        BrokenLoaves x = new BrokenLoaves();
        for (int sort = 0; sort < 5; sort++) {
            x.sheet(1, sort, 3 + sort);
            Check.due("47 row", x.shelf(3, 1, 1), 1);
            for (int as = 10; as < 15; as++) Check.due("48 row", x.taken(3, as), as == 10 + sort ? 3 + sort : -13);
            for (int as = 0; as < 6; as++) Check.due("48 no person", x.taken(3, as), -13);
        }
        x.sheet(1, 0, 40);
        Check.due("48 the row that was put there", x.taken(3, 14), 7);
        x.sheet(1, -1, 0);
        Check.due("48 it stays", x.taken(3, 14), 7);
        Check.due("47 missing", x.shelf(3, 1, 1), 1);
        Check.due("48 nothing then", x.taken(3, 14), -11);
        x.sheet(2, 3, 0);
        x.shelf(2, 1, 2);
        Check.due("48 no items", x.taken(2, 13), 0);
        // a person that there is no more, and that is there again
        x.keep();
        x.person(4, 1, 1, 1);
        x.shelf(0, 0, 0);
        Check.due("48 there", x.taken(0, 4), 0);
        x.again();
        Check.due("48 no such one at the time", x.taken(0, 4), -11);
        Check.due("49 nothing", x.act(0, 0, 9), 0);
        x.person(1, 1, 1, 1);
        Check.due("48 there again", x.taken(0, 1), 0);
    }

    private static void done(BrokenLoaves x, int act, int arg, int due, int... bodies) {
        Check.due("49 act " + act + " " + arg, x.act(0, act, arg), due);
        Check.due("51 bodies", x.many(6), bodies.length);
        for (int i = 0; i < bodies.length; i++) Check.due("50 body " + i + " of " + act, x.trace(i), bodies[i]);
        Check.due("50 behind", x.trace(bodies.length), -3);
        Check.due("50 ahead", x.trace(-1), -3);
    }

    private static void acts() {
        BrokenLoaves x = new BrokenLoaves();
        for (int k = 0; k < 2; k++) x.person(1, 1, 1, 1);
        x.person(1, 1, 1, 5);
        x.shelf(0, 0, 2);
        // number 2, gate 5: parts are 5 + 1 - 2 = 4
        int h = (7 + 2) ^ 2;
        done(x, 0, 7, h, 20, 10);
        done(x, 1, 7, h * 3, 11, 20, 10);
        done(x, 2, 7, 3, 12);
        done(x, 2, -7, -3, 12);
        done(x, 3, 7, h * 3 - 3, 13, 11, 20, 10, 12);
        done(x, 0, Integer.MAX_VALUE, (Integer.MAX_VALUE + 2) ^ 2, 20, 10);
        x.remake(2, 2);
        done(x, 0, 7, 5, 10);
        done(x, 1, 7, 15 + 5, 30, 11, 10);
        done(x, 2, 7, 3, 12);
        done(x, 3, 7, 20 - 3, 13, 30, 11, 10, 12);
        x.remake(2, 3);
        done(x, 0, 7, 5 - 7, 50, 10);
        done(x, 1, 7, -6 + 5, 30, 11, 50, 10);
        done(x, 2, 6, 2, 12);
        int one = ((1 ^ 2) - 7) * 3 + 5;
        done(x, 3, 7, (-1 - 3) ^ one, 51, 13, 30, 11, 50, 10, 12, 30, 11, 50, 10);
        x.remake(2, 4);
        done(x, 0, 7, 5, 10);
        done(x, 1, 7, 15, 11, 10);
        done(x, 2, 7, 6, 40, 12);
        done(x, 3, 7, 15 - 6, 13, 11, 10, 40, 12);
        x.remake(2, 5);
        done(x, 0, 7, 5, 10);
        done(x, 1, 7, -15, 60, 11, 10);
        done(x, 2, 7, 6 + (5 ^ 2), 61, 40, 12, 10);
        done(x, 3, 7, -15 - 13, 13, 60, 11, 10, 61, 40, 12, 10);
        done(x, 1, Integer.MIN_VALUE, 0 - (Integer.MIN_VALUE ^ 2) * 3, 60, 11, 10);
        // parts below 0: number 5, gate 0 is -4
        for (int k = 3; k < 6; k++) x.person(1, 1, 1, 0);
        x.shelf(0, 0, 5);
        done(x, 2, 7, 3, 12);
        done(x, 2, -7, -3, 12);
        x.change(5, 3, 3);
        done(x, 2, Integer.MIN_VALUE, 0, 12);
    }

    private static void partedByNothing() {
        BrokenLoaves x = new BrokenLoaves();
        x.person(1, 1, 1, 0);
        x.person(3, 1, 1, 0);
        x.shelf(0, 0, 1);
        done(x, 2, 7, -15, 12);
        done(x, 3, 7, -15, 51, 13, 30, 11, 50, 10, 12);
        done(x, 1, 7, ((7 ^ 1) - 7) * 3, 30, 11, 50, 10);
        x.remake(1, 5);
        done(x, 2, 7, -15, 61, 40, 12);
        done(x, 3, 7, -15, 13, 60, 11, 10, 61, 40, 12);
        done(x, 0, 7, 6, 10);
        x.change(1, 3, 1);
        done(x, 2, 7, 0 + (1 ^ 1), 61, 40, 12, 10);
    }

    private static void noAct() {
        BrokenLoaves x = Check.five();
        x.sheet(0, 0, 3);
        x.shelf(0, 0, 1);
        x.shelf(1, 1, 0);
        int[][] none = {{-1, 0}, {4, 0}, {0, -1}, {0, 4}, {1, 0}, {2, 0}};
        for (int[] n : none) {
            x.act(0, 0, 1);
            Check.due("50 a trace", x.trace(0), 10);
            Check.due("49 no act", x.act(n[0], n[1], 5), 0);
            Check.due("51 no trace then", x.many(6), 0);
            Check.due("50 no trace then", x.trace(0), -3);
        }
    }

    private static void many() {
        BrokenLoaves x = Check.five();
        Check.rules(x, "tramp pass; person if day > 7 break; pilgrim break;");
        Check.tape(x, "some bytes");
        x.change(2, 5, 1);
        x.change(4, 5, 1);
        x.report(1, 0, 1, 1);
        x.prove(3);
        x.shelf(0, 0, 0);
        x.act(0, 1, 1);
        int[] due = {5, 3, 2, 1, 3, 10, 3};
        for (int what = 0; what < 7; what++) Check.due("51 many " + what, x.many(what), due[what]);
        Check.due("51 what -1", x.many(-1), -1);
        Check.due("51 what 7", x.many(7), -1);
    }
}

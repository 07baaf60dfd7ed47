/** Promises 52 and 53: keep, again. */
public final class KeptTest {
    public static void main(String[] args) {
        nothing();
        all();
        whatIsNotKept();
        whatIsKeptStays();
        Check.finish();
    }

    private static void nothing() {
        BrokenLoaves x = Check.five();
        String before = Check.portrait(x);
        Check.due("53 nothing is kept", x.again(), -3);
        Check.same("53 refused", Check.portrait(x), before);
        x = new BrokenLoaves();
        Check.due("52 of nobody", x.keep(), 1);
        x.person(1, 1, 1, 1);
        Check.due("53 nobody", x.again(), 0);
        Check.due("51 nobody", x.many(0), 0);
    }

    private static BrokenLoaves busy() {
        BrokenLoaves x = Check.five();
        x.weather(4, 9);
        x.ends(14);
        x.day();
        x.day();
        Check.rules(x, "tramp if day > 1 and (tale = 8 or snow < 3) pass; bishop shut;");
        x.report(3, 0, 10, 30);
        x.report(5, 1, 3, 9);
        x.seed(-99);
        x.change(3, 4, 7);
        return x;
    }

    private static void turnAround(BrokenLoaves x) {
        x.person(1, 2, 3, 4);
        for (int k = 0; k < 5; k++) {
            x.change(k, 1, 33);
            x.change(k, 2, 1);
            x.change(k, 3, 5);
            x.change(k, 4, 8);
            x.change(k, 5, 1 - x.personOf(k, 5));
            x.remake(k, 1 + x.personOf(k, 0) % 5);
        }
        for (int d = 0; d < 16; d++) x.weather(d, 13);
        for (int g = 0; g < 6; g++) {
            x.gate(g, 0, 9);
            x.gate(g, 1, 1);
        }
        x.house(0, 7);
        x.house(1, 77);
        x.lot();
        x.ends(16);
        Check.rules(x, "person shut; tramp if number = 9 break; double pass;");
        x.forget();
        x.report(1, 1, 1, 1);
        x.seed(5);
    }

    private static void all() {
        BrokenLoaves x = busy();
        String before = Check.portrait(x);
        Check.due("52 keep", x.keep(), 1);
        Check.same("52 changes nothing", Check.portrait(x), before);
        turnAround(x);
        Check.due("53 people", x.again(), 5);
        Check.same("53 all is as it was", Check.portrait(x), before);
        x.anew();
        x.change(0, 2, 0);
        x.again();
        Check.same("53 anew, too", Check.portrait(x), before);
    }

    private static void whatIsNotKept() {
        BrokenLoaves x = busy();
        x.keep();
        Check.tape(x, "tramp");
        x.prove(3);
        x.alterRow(1, 1, 55);
        x.sheet(2, 2, 4);
        x.write(2, 3, 1234);
        x.shelf(1, 0, 4);
        x.shelf(2, 1, 2);
        x.act(1, 3, 9);
        int bodies = x.many(6);
        x.again();
        Check.due("53 tape", x.many(5), 5);
        Check.due("53 rows", x.many(4), 3);
        Check.due("53 row", x.row(1, 1), 55);
        Check.due("53 sheet", x.item(2, 2, 3), 1234);
        Check.due("53 shelf", x.taken(1, 3), 4);
        Check.due("53 row on a shelf", x.taken(2, 12), 4);
        Check.due("53 trace", x.many(6), bodies);
        Check.due("53 trace", x.trace(0), 51);
        Check.due("53 the tape goes on", Check.rules(x, " break;"), 1);
    }

    private static void whatIsKeptStays() {
        BrokenLoaves x = busy();
        String first = Check.portrait(x);
        x.keep();
        for (int i = 0; i < 3; i++) {
            turnAround(x);
            Check.due("53 again", x.again(), 5);
            Check.same("53 again and again", Check.portrait(x), first);
        }
        turnAround(x);
        String second = Check.portrait(x);
        x.keep();
        x.anew();
        Check.due("53 the latest", x.again(), 6);
        Check.same("53 the latest", Check.portrait(x), second);
    }
}

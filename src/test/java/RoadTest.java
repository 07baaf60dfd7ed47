/** Promises 1 to 12: the road, people. */
public final class RoadTest {
    public static void main(String[] args) {
        aNewObject();
        people();
        strangeAndEats();
        changes();
        weatherAndGates();
        weatherOfTheLastDay();
        houseAndEnds();
        anewAndState();
        refusalsChangeNothing();
        Check.finish();
    }

    private static void aNewObject() {
        BrokenLoaves x = new BrokenLoaves();
        for (int what = 0; what < 7; what++) Check.due("1 many " + what, x.many(what), 0);
        Check.due("1 again", x.again(), BrokenLoaves.NONE);
        int[] state = {0, 12, 0, 0, 0, 0, 4, 0, 12};
        for (int what = 0; what < 9; what++) Check.due("1 state " + what, x.state(what), state[what]);
        for (int g = 0; g < 6; g++) {
            Check.due("1 dust", x.gateOf(g, 0), 0);
            Check.due("1 takes", x.gateOf(g, 1), 5);
        }
        for (int d = 0; d < 16; d++) Check.due("1 weather", x.weather(d, 0), 4);
        Check.due("1 z", x.seed(1), 1);
        for (int s = 0; s < 4; s++) {
            Check.due("1 sheet", x.item(s, 0, 0), -11);
            Check.due("1 shelf", x.taken(s, 0), -11);
        }
    }

    private static void people() {
        BrokenLoaves x = new BrokenLoaves();
        int[][] wrong = {{0, 1, 1, 1}, {6, 1, 1, 1}, {1, -1, 1, 1}, {1, 61, 1, 1}, {1, 1, -1, 1}, {1, 1, 10, 1}, {1, 1, 1, -1}, {1, 1, 1, 6}};
        for (int[] w : wrong) Check.due("2 wrong", x.person(w[0], w[1], w[2], w[3]), -1);
        Check.due("2 many", x.many(0), 0);
        Check.due("2 edges low", x.person(1, 0, 0, 0), 0);
        Check.due("2 edges high", x.person(5, 60, 9, 5), 1);
        int[] parts = {5, 60, 9, 5, 0, 0};
        for (int what = 0; what < 6; what++) Check.due("3 part " + what, x.personOf(1, what), parts[what]);
        for (int k = 2; k < 6; k++) Check.due("2 number", x.person(2, 1, 1, 1), k);
        Check.due("2 full", x.person(2, 1, 1, 1), -2);
        Check.due("2 bad ahead of full", x.person(0, 1, 1, 1), -1);
        Check.due("3 none such", x.personOf(6, 0), -1);
        Check.due("3 below", x.personOf(-1, 0), -1);
        Check.due("3 what below", x.personOf(0, -1), -1);
        Check.due("3 what above", x.personOf(0, 10), -1);
    }

    private static void strangeAndEats() {
        BrokenLoaves x = new BrokenLoaves();
        for (int kind = 1; kind <= 5; kind++) x.person(kind, 60, 7, 3);
        x.person(1, 60, 9, 3);
        int[] eats = {3, 2, 7, 6, 4, 8};
        for (int k = 0; k < 6; k++) Check.due("3 eats " + k, x.personOf(k, 7), eats[k]);
        int[][] strange = {{14, 10, 12, 3, 3, 18}, {14, 10, 10, 3, 3, 18}, {14, 10, 12, 3, 9, 18}, {14, 10, 10, 3, 3, 18}};
        for (int day = 0; day < 4; day++) {
            for (int k = 0; k < 6; k++) Check.due("3 strange on " + day + " of " + k, x.personOf(k, 6), strange[day][k]);
            x.day();
        }
        x.day();
        Check.due("3 double on day 5", x.personOf(4, 6), 9);
        x.gate(3, 0, 5);
        x.change(0, 4, 4);
        Check.due("3 dust more, twice met less", x.personOf(0, 6), 14 + 5 - 8);
        x.change(3, 4, 9);
        Check.due("3 never below 0", x.personOf(3, 6), 0);
        x.gate(3, 1, x.state(7));
        Check.due("3 taken by as much snow", x.personOf(0, 9), 1);
        x.gate(3, 1, x.state(7) - 1);
        Check.due("3 not by more", x.personOf(0, 9), 0);
        Check.due("3 will", x.personOf(0, 8), 0);
        Check.rules(x, "pilgrim shut; person pass;");
        int[] wills = {1, 2, 2, 1, 1, 1};
        for (int k = 0; k < 6; k++) Check.due("3 will of " + k, x.personOf(k, 8), wills[k]);
    }

    private static void changes() {
        BrokenLoaves x = Check.five();
        int[] old = {0, 14, 8, 0, 0, 0};
        int[] most = {0, 60, 9, 5, 9, 1};
        for (int what = 1; what <= 5; what++) {
            Check.due("4 above " + what, x.change(0, what, most[what] + 1), -1);
            Check.due("4 below " + what, x.change(0, what, -1), -1);
            Check.due("4 was " + what, x.change(0, what, most[what]), old[what]);
            Check.due("4 is " + what, x.personOf(0, what), most[what]);
            Check.due("4 back to 0 " + what, x.change(0, what, 0), most[what]);
            Check.due("4 is 0 " + what, x.personOf(0, what), 0);
            Check.due("4 another person is as it was", x.personOf(1, what), new int[] {0, 16, 9, 1, 0, 0}[what]);
        }
        for (int k = 0; k < 5; k++) {
            for (int v : new int[] {9, 6, 1, 8, 0}) {
                x.change(k, 4, v);
                Check.due("4 met of each is its own", x.personOf(k, 4), v);
                Check.due("4 met of the others is", x.state(4), v == 0 ? 0 : 1 << k);
            }
        }
        Check.due("4 kind", x.change(0, 0, 1), -1);
        Check.due("4 what 6", x.change(0, 6, 0), -1);
        Check.due("4 none such", x.change(5, 1, 0), -1);
        Check.due("4 k -1", x.change(-1, 1, 0), -1);
        Check.due("5 remake", x.remake(2, 5), 4);
        Check.due("5 is", x.personOf(2, 0), 5);
        Check.due("5 need stays", x.personOf(2, 1), 20);
        Check.due("5 kind 0", x.remake(2, 0), -1);
        Check.due("5 kind 6", x.remake(2, 6), -1);
        Check.due("5 none such", x.remake(5, 1), -1);
        Check.due("5 k -1", x.remake(-1, 1), -1);
        x.change(2, 4, 3);
        x.change(2, 5, 1);
        x.remake(2, 1);
        Check.due("5 met stays", x.personOf(2, 4), 3);
        Check.due("5 fed stays", x.personOf(2, 5), 1);
        Check.due("5 eats as the new kind", x.personOf(2, 7), 5);
    }

    private static void weatherOfTheLastDay() {
        BrokenLoaves x = new BrokenLoaves();
        x.ends(16);
        for (int d = 0; d < 15; d++) x.day();
        x.house(0, 2);
        x.weather(15, 12);
        x.day();
        Check.due("6 day 15 snows 3", x.state(7), 5);
    }

    private static void weatherAndGates() {
        BrokenLoaves x = new BrokenLoaves();
        Check.due("6 day -1", x.weather(-1, 0), -1);
        Check.due("6 day 16", x.weather(16, 0), -1);
        Check.due("6 v -1", x.weather(0, -1), -1);
        Check.due("6 v 16", x.weather(0, 16), -1);
        Check.due("6 was", x.weather(15, 15), 4);
        Check.due("6 is", x.weather(15, 0), 15);
        // force 3: snows, snows, blows from 6 down to 5, thaws, thaws, blows up to 3, up to 5, none
        int[] weather = {12, 12, 14, 13, 13, 14, 14, 15};
        int[] snow = {3, 6, 5, 2, 0, 3, 5, 5};
        for (int d = 0; d < 8; d++) x.weather(d, weather[d]);
        for (int d = 0; d < 8; d++) {
            x.day();
            Check.due("6 snow behind " + d, x.state(7), snow[d]);
        }
        x.house(0, 8);
        x.weather(8, 12);
        x.day();
        Check.due("6 snow is held at 9", x.state(7), 9);
        for (int what = 0; what < 2; what++) {
            Check.due("7 g -1", x.gate(-1, what, 0), -1);
            Check.due("7 g 6", x.gate(6, what, 0), -1);
            Check.due("7 v -1", x.gate(0, what, -1), -1);
            Check.due("7 v 10", x.gate(0, what, 10), -1);
            Check.due("7 was", x.gate(5, what, 9), what == 0 ? 0 : 5);
            Check.due("8 is", x.gateOf(5, what), 9);
            Check.due("7 to 0", x.gate(5, what, 0), 9);
            Check.due("8 g -1", x.gateOf(-1, what), -1);
            Check.due("8 g 6", x.gateOf(6, what), -1);
            Check.due("8 another gate", x.gateOf(4, what), what == 0 ? 0 : 5);
        }
        Check.due("7 what 2", x.gate(0, 2, 0), -1);
        Check.due("7 what -1", x.gate(0, -1, 0), -1);
        Check.due("8 what 2", x.gateOf(0, 2), -1);
        Check.due("8 what -1", x.gateOf(0, -1), -1);
    }

    private static void houseAndEnds() {
        BrokenLoaves x = new BrokenLoaves();
        Check.due("9 snow was", x.house(0, 9), 0);
        Check.due("9 snow is", x.house(0, 0), 9);
        Check.due("9 loaf was", x.house(1, 999), 12);
        Check.due("9 loaf is", x.state(8), 999);
        Check.due("9 loaf 0", x.house(1, 0), 999);
        Check.due("9 snow 10", x.house(0, 10), -1);
        Check.due("9 snow -1", x.house(0, -1), -1);
        Check.due("9 loaf 1000", x.house(1, 1000), -1);
        Check.due("9 loaf -1", x.house(1, -1), -1);
        Check.due("9 what 2", x.house(2, 0), -1);
        Check.due("9 what -1", x.house(-1, 0), -1);
        Check.due("10 v 0", x.ends(0), -1);
        Check.due("10 v 17", x.ends(17), -1);
        Check.due("10 was", x.ends(16), 12);
        for (int d = 0; d < 3; d++) x.day();
        Check.due("10 below day", x.ends(2), -4);
        Check.due("10 bad ahead of state", x.ends(0), -1);
        Check.due("10 end stays", x.state(1), 16);
        Check.due("10 on day", x.ends(3), 16);
        Check.due("12 over", x.state(3), 1);
        Check.due("10 longer again", x.ends(4), 3);
        Check.due("12 not over", x.state(3), 0);
    }

    private static void anewAndState() {
        BrokenLoaves x = Check.five();
        x.weather(2, 7);
        x.ends(16);
        int worth = x.day() + x.day();
        Check.due("12 day", x.state(0), 2);
        Check.due("12 score", x.state(2), worth);
        Check.due("12 met", x.state(4), 3);
        Check.due("12 fed", x.state(5), 3);
        Check.due("12 weather of day", x.state(6), 7);
        Check.due("12 what -1", x.state(-1), -1);
        Check.due("12 what 9", x.state(9), -1);
        x.seed(9);
        Check.due("11 day was", x.anew(), 2);
        int[] state = {0, 16, 0, 0, 0, 0, 4, 0, 12};
        for (int what = 0; what < 9; what++) Check.due("11 state " + what, x.state(what), state[what]);
        Check.due("11 people stay", x.many(0), 5);
        Check.due("11 z stays", x.seed(9), 9);
        Check.due("11 weather stays", x.weather(2, 7), 7);
        Check.due("11 gates stay", x.gateOf(1, 0), 5);
        x.weather(15, 11);
        for (int d = 0; d < 15; d++) x.day();
        Check.due("12 weather of day 15", x.state(6), 11);
        int snow = x.state(7);
        x.house(0, 3);
        x.day();
        Check.due("12 day 16", x.state(0), 16);
        Check.due("12 none on day 15", x.state(7), 3);
        Check.due("12 it snowed on the days ahead", snow, 9);
        Check.due("12 no weather behind day 15", x.state(6), 0);
        Check.due("12 over", x.state(3), 1);
        Check.due("11 from the end", x.anew(), 16);
    }

    private static void refusalsChangeNothing() {
        BrokenLoaves x = Check.five();
        x.day();
        x.day();
        String before = Check.portrait(x);
        x.person(6, 1, 1, 1);
        x.change(0, 4, 10);
        x.change(0, 5, 2);
        x.change(9, 1, 1);
        x.remake(0, 6);
        x.weather(0, 16);
        x.weather(16, 0);
        x.gate(0, 0, 10);
        x.gate(6, 0, 1);
        x.house(0, 10);
        x.house(1, -1);
        x.house(2, 5);
        x.ends(1);
        x.ends(17);
        Check.same("2 to 10 refused", Check.portrait(x), before);
        x.person(1, 1, 1, 1);
        before = Check.portrait(x);
        x.person(1, 1, 1, 1);
        Check.same("2 full", Check.portrait(x), before);
    }
}

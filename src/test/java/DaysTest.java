/** Promises 15 to 23: days, bakeries, winters, tables, rounds. */
public final class DaysTest {
    public static void main(String[] args) {
        aDay();
        limits();
        theRest();
        taleAndGate();
        bakeriesAndWinters();
        tables();
        rounds();
        askingChangesNothing();
        Check.finish();
    }

    /** Whether the loaf is n, behind weather that does nothing. */
    private static BrokenLoaves still() {
        BrokenLoaves x = new BrokenLoaves();
        for (int d = 0; d < 16; d++) x.weather(d, 3);
        return x;
    }

    private static void aDay() {
        BrokenLoaves x = still();
        x.person(1, 20, 4, 0);
        Check.due("15 strange 8, and 9", x.day(), 17);
        Check.due("15 loaf 12 + 8 - 3 - 1", x.state(8), 16);
        Check.due("15 met", x.personOf(0, 4), 1);
        Check.due("15 fed", x.personOf(0, 5), 1);
        Check.due("15 day", x.state(0), 1);
        Check.due("15 score", x.state(2), 17);
        Check.due("15 nobody is left", x.day(), 0);
        Check.due("15 one part less", x.state(8), 15);
        x.change(0, 5, 0);
        x.change(0, 1, 22);
        Check.due("15 15 + 6 is below 22", x.day(), 0);
        x.change(0, 1, 20);
        Check.due("15 14 + 6 is 20", x.day(), 15);
        Check.due("15 loaf", x.state(8), 16);
        x.house(0, 5);
        Check.due("15 snow 5", x.day(), 0);
        Check.due("15 a third, cut", x.state(8), 14);
        x.change(0, 5, 0);
        x.gate(0, 1, 4);
        Check.due("15 the gate is shut", x.day(), 0);
        x.gate(0, 1, 5);
        Check.due("15 as much snow as it takes, loaf 12 + 4", x.day(), 0);
        x.change(0, 1, 14);
        Check.due("15 taken", x.day(), 13);
        x.ends(8);
        Check.due("15 over", x.day(), -4);
        x.ends(9);
        Check.due("15 not over", x.day(), 0);
        x.house(1, 1);
        x.ends(10);
        x.day();
        Check.due("15 loaf 0 at least", x.state(8), 0);
    }

    private static void limits() {
        BrokenLoaves x = still();
        x.person(1, 0, 9, 0);
        x.gate(0, 0, 9);
        x.house(1, 990);
        Check.due("15 worth as strange as it was", x.day(), 27 + 9);
        Check.due("15 loaf is held at 999, then it eats 3, then 1", x.state(8), 995);
        x.change(0, 4, 9);
        x.change(0, 5, 0);
        Check.due("15 strange 9 still", x.day(), 9 + 9);
        Check.due("15 met is held at 9", x.personOf(0, 4), 9);
        x.sheet(0, 0, 1);
        x.write(0, 0, 1);
        x.house(1, 100);
        Check.due("15 fed again: no 9", x.goAll(0, 0, 1), 9);
        Check.due("15 but it eats", x.state(8), 100 + 9 - 3 - 1);
        x.change(0, 1, 60);
        x.house(1, 5);
        Check.due("15 below its need", x.goAll(0, 0, 1), 9);
        Check.due("15 eats nothing", x.state(8), 5 + 9 - 1);
        Check.due("15 is fed still", x.personOf(0, 5), 1);
        x.remake(0, 3);
        x.gate(0, 0, 0);
        x.change(0, 1, 0);
        x.house(1, 3);
        Check.due("15 not strange any more", x.goAll(0, 0, 1), 0);
        Check.due("15 eats no more than there is", x.state(8), 0);
        Check.rules(x, "person pass;");
        x.change(0, 4, 8);
        Check.due("15 pass", x.goAll(0, 0, 1), 1);
        Check.due("15 pass: met", x.personOf(0, 4), 9);
        Check.due("15 pass again", x.goAll(0, 0, 1), 1);
        Check.due("15 pass: held at 9", x.personOf(0, 4), 9);
        Check.rules(x, "person shut;");
        x.change(0, 4, 0);
        Check.due("15 shut", x.goAll(0, 0, 1), 0);
        Check.due("15 shut: not met", x.personOf(0, 4), 0);
    }

    private static void theRest() {
        BrokenLoaves x = Check.five();
        Check.due("16 n -1", x.on(-1), -1);
        Check.due("16 n 17", x.on(17), -1);
        Check.due("16 n 0", x.on(0), 0);
        Check.due("16 one", x.on(1), 27);
        int sum = 0;
        int two = x.on(2);
        int whole = x.on(16);
        int[] when = new int[5];
        for (int k = 0; k < 5; k++) when[k] = x.when(k);
        Check.due("17 k -1", x.when(-1), -1);
        Check.due("17 k 5", x.when(5), -1);
        x.keep();
        for (int d = 0; d < 12; d++) {
            if (d == 2) Check.due("16 two days", two, sum);
            int fed = x.state(5);
            sum += x.day();
            for (int k = 0; k < 5; k++) {
                if (((x.state(5) & ~fed) >> k & 1) == 1) Check.due("17 when " + k, when[k], d);
            }
        }
        Check.due("16 all days", whole, sum);
        Check.due("12 score", x.state(2), sum);
        Check.due("16 over", x.on(16), 0);
        Check.due("17 fed now", x.when(0), -3);
        x.again();
        Check.due("17 the last but one day is not enough", when[4], 4);
        x.ends(4);
        Check.due("17 over ahead of it", x.when(4), -3);
        x.ends(5);
        Check.due("17 on the last day", x.when(4), 4);
        x.ends(12);
        x.change(4, 1, 60);
        x.remake(4, 4);
        Check.due("17 never", x.when(4), -3);
        Check.rules(x, "tramp shut;");
        Check.due("16 who is told is the least that could be fed, whatever its will", x.on(16), 0);
        Check.due("17 shut out", x.when(0), -3);
        Check.due("17 nobody behind it", x.when(1), -3);
    }

    private static void taleAndGate() {
        BrokenLoaves x = Check.five();
        Check.due("18 tale", x.taleFor(0), 9);
        Check.due("18 k -1", x.taleFor(-1), -1);
        Check.due("18 k 5", x.taleFor(5), -1);
        Check.due("18 stays", x.personOf(0, 2), 8);
        Check.due("19 gate", x.gateFor(0), 1);
        Check.due("19 k -1", x.gateFor(-1), -1);
        Check.due("19 k 5", x.gateFor(5), -1);
        Check.due("19 stays", x.personOf(0, 3), 0);
        x.change(0, 5, 1);
        Check.due("18 of several the least", x.taleFor(0), 0);
        Check.due("19 of several the least", x.gateFor(0), 0);
        x = still();
        x.person(4, 0, 3, 2);
        Check.due("18 half of 8 is as much as half of 9", x.taleFor(0), 8);
        for (int g = 0; g < 6; g++) x.gate(g, 0, g == 5 || g == 3 ? 7 : 2);
        Check.due("19 the dustiest, the least of two", x.gateFor(0), 3);
        x.gate(3, 1, 0);
        x.house(0, 1);
        Check.due("19 it does not take it by snow", x.gateFor(0), 5);
        x.gate(5, 1, 1);
        Check.due("19 it takes it just so", x.gateFor(0), 5);
        Check.rules(x, "friend if tale > 4 shut;");
        Check.due("18 rules count", x.taleFor(0), 4);
    }

    private static void bakeriesAndWinters() {
        BrokenLoaves x = still();
        Check.due("20 v -1", x.bakery(-1), -1);
        Check.due("20 v 1000", x.bakery(1000), -1);
        Check.due("20 behind the first day", x.bakery(11), 0);
        Check.due("20 not ahead of it", x.bakery(12), -3);
        Check.due("20 v 0", x.bakery(0), 0);
        Check.due("21 loaf", x.winter(1), 0);
        Check.due("21 days", x.winter(0), 12);
        Check.due("21 what -1", x.winter(-1), -1);
        Check.due("21 what 2", x.winter(2), -1);
        x.person(2, 22, 9, 0);
        x.person(1, 26, 9, 0);
        Check.due("20 12 + 12 - 2 - 1", x.bakery(21), 0);
        Check.due("20 21 + 18 - 4 - 1", x.bakery(22), 1);
        Check.due("20 34", x.bakery(34), 1);
        x.ends(2);
        Check.due("20 on the last day", x.bakery(34), 1);
        x.ends(1);
        Check.due("20 over ahead of it", x.bakery(34), -3);
        x.ends(12);
        Check.due("20 35", x.bakery(35), -3);
        Check.due("21 two are fed", x.winter(0), 10);
        Check.due("21 34 less 10", x.winter(1), 24);
        x.ends(1);
        Check.due("21 one day", x.winter(0), 0);
        x.day();
        Check.due("20 over", x.bakery(0), -3);
        Check.due("21 over", x.winter(0), 0);
        Check.due("21 loaf now", x.winter(1), 21);
    }

    private static void tables() {
        BrokenLoaves x = new BrokenLoaves();
        Check.due("22 none", x.tables(-1), 0);
        Check.due("22 no such person", x.tables(0), -1);
        x.person(1, 10, 1, 0);
        x.person(1, 12, 1, 1);
        x.person(1, 40, 1, 1);
        x.person(1, 43, 1, 2);
        x.person(1, 20, 1, 3);
        x.person(1, 45, 1, 4);
        Check.due("22 three tables", x.tables(-1), 3);
        int[] sets = {7, 7, 7, 40, 16, 40};
        for (int k = 0; k < 6; k++) Check.due("22 table of " + k, x.tables(k), sets[k]);
        x.change(1, 5, 1);
        Check.due("22 who is fed parts them", x.tables(-1), 4);
        Check.due("22 alone", x.tables(0), 1);
        Check.due("22 fed", x.tables(1), 0);
        Check.due("22 alone too", x.tables(2), 4);
        Check.due("22 what -2", x.tables(-2), -1);
        Check.due("22 what 6", x.tables(6), -1);
        // a long chain, against the order of numbers
        int[] needs = {50, 10, 48, 12, 46, 14};
        for (int k = 0; k < 6; k++) {
            x.change(k, 5, 0);
            x.change(k, 1, needs[k]);
            x.change(k, 3, k < 4 ? k : 5);
        }
        Check.due("22 one chain by the gate of two", x.tables(0), 63);
        Check.due("22 one table", x.tables(-1), 1);
    }

    private static void rounds() {
        BrokenLoaves x = new BrokenLoaves();
        Check.due("23 nobody", x.rounds(5, 0), 0);
        Check.due("23 nobody first", x.rounds(5, 1), -3);
        x.person(1, 30, 1, 0);
        x.person(1, 10, 1, 0);
        x.person(1, 20, 1, 0);
        x.person(1, 40, 1, 0);
        Check.due("23 loaf -1", x.rounds(-1, 0), -1);
        Check.due("23 loaf 1000", x.rounds(1000, 1), -1);
        Check.due("23 what 2", x.rounds(0, 2), -1);
        Check.due("23 what -1", x.rounds(0, -1), -1);
        Check.due("23 from below", x.rounds(0, 0), 40);
        Check.due("23 from below first", x.rounds(0, 1), 1);
        Check.due("23 from above", x.rounds(999, 0), 989);
        Check.due("23 from above first", x.rounds(999, 1), 3);
        Check.due("23 down, then up", x.rounds(24, 0), 14 + 30);
        Check.due("23 down, by 20 first", x.rounds(24, 1), 1);
        Check.due("23 as far both ways: 0 is on the way up", x.rounds(25, 0), 45);
        Check.due("23 least first", x.rounds(25, 1), 0);
        x.change(1, 5, 1);
        Check.due("23 the fed are left out", x.rounds(0, 0), 40);
        Check.due("23 first of the others", x.rounds(0, 1), 2);
        x.change(0, 5, 1);
        x.change(2, 5, 1);
        x.change(3, 5, 1);
        Check.due("23 all fed", x.rounds(7, 0), 0);
        Check.due("23 all fed first", x.rounds(7, 1), -3);
        Check.due("23 bad ahead of none", x.rounds(1000, 1), -1);
        x.change(0, 5, 0);
        x.change(0, 1, 0);
        Check.due("23 need 0", x.rounds(0, 0), 0);
        Check.due("23 need 0 first", x.rounds(0, 1), 0);
        x.change(1, 5, 0);
        Check.due("23 0 and 10", x.rounds(3, 0), 13);
        x.change(0, 1, 60);
        Check.due("23 60 and 10", x.rounds(3, 0), 57);
    }

    private static void askingChangesNothing() {
        BrokenLoaves x = Check.five();
        Check.rules(x, "double if day < 4 pass; bishop shut;");
        x.day();
        String before = Check.portrait(x);
        x.on(16);
        x.when(3);
        x.taleFor(1);
        x.gateFor(1);
        x.bakery(30);
        x.winter(0);
        x.tables(-1);
        x.rounds(33, 1);
        Check.same("16 to 23", Check.portrait(x), before);
        x.ends(1);
        before = Check.portrait(x);
        x.day();
        Check.same("15 over", Check.portrait(x), before);
    }
}

/** Promises 13 and 14: the rules. */
public final class RulesTest {
    public static void main(String[] args) {
        theTape();
        numbersOfRules();
        faults();
        conditions();
        facts();
        shorterTexts();
        kinds();
        aFaultChangesNothing();
        Check.finish();
    }

    private static void theTape() {
        BrokenLoaves x = new BrokenLoaves();
        Check.due("13 n 0", x.feed(1, 0), -1);
        Check.due("13 n 9", x.feed(1, 9), -1);
        Check.due("13 n -1", x.feed(1, -1), -1);
        for (int i = 1; i <= 24; i++) Check.due("13 eight", x.feed(0x2020202020202020L, 8), 8 * i);
        Check.due("13 seven", x.feed(0x2020202020202020L, 7), 199);
        Check.due("13 two too many", x.feed(0x2020, 2), -2);
        Check.due("13 bad ahead of full", x.feed(0x2020, 9), -1);
        Check.due("13 stays", x.many(5), 199);
        Check.due("13 the last", x.feed(0x20, 1), 200);
        Check.due("13 full", x.feed(0x20, 1), -2);
        Check.due("14 blanks alone", x.rules(), 0);
        Check.due("14 used up", x.many(5), 0);
        Check.due("14 no bytes", x.rules(), 0);
        // the lowest byte first, bytes beyond n left out
        x.feed(0x7ff20706d617274L, 6);
        x.feed(0xff00ff3b73736170L, 5);
        Check.due("14 by bytes", x.rules(), 1);
    }

    private static void numbersOfRules() {
        BrokenLoaves x = new BrokenLoaves();
        StringBuilder eight = new StringBuilder();
        for (int i = 0; i < 8; i++) eight.append("tramp pass;");
        Check.due("14 eight", Check.rules(x, eight.toString()), 8);
        Check.due("14 eight, many", x.many(1), 8);
        Check.due("14 nine", Check.rules(x, eight + "  tramp pass;"), -100 - 90);
        Check.due("14 a ninth that is none", Check.rules(x, eight + "?"), -100 - 88);
        Check.due("14 still eight", x.many(1), 8);
        Check.due("14 in place of all", Check.rules(x, "double shut;"), 1);
        Check.due("14 none", Check.rules(x, " "), 0);
        Check.due("14 none, many", x.many(1), 0);
    }

    private static void fault(String text, int place) {
        BrokenLoaves x = new BrokenLoaves();
        Check.due("14 \"" + text + "\"", Check.rules(x, text), place < 0 ? -place : -100 - place);
        Check.due("14 used up by it", x.many(5), 0);
    }

    private static void faults() {
        fault("tramp", 5);
        fault("tramp   ", 8);
        fault("tramp pass", 10);
        fault("tramp pass ; ", -1);
        fault("  tramps pass;", 2);
        fault("Tramp pass;", 0);
        fault("tramp passes;", 6);
        fault("tramp\tpass;", 5);
        fault("tramp pass;;", 11);
        fault("tramp pass tramp pass;", 11);
        fault("pass;", 0);
        fault("break pass;", 0);
        fault("cramp pass;", 0);
        fault("tramp mass;", 6);
        fault("tramp if 1 < 2", 14);
        fault("tramp if 12", 11);
        fault("tramp if", 8);
        fault("tramp if pass;", 9);
        fault("tramp if day pass;", 13);
        fault("tramp if day < pass;", 15);
        fault("tramp if day < 3", 16);
        fault("tramp if day < 3;", 16);
        fault("tramp if day < 3 pass", 21);
        fault("tramp if day < = 3 pass;", 15);
        fault("tramp if 9999>0000 pass;", -1);
        fault("tramp if day < 10000 pass;", 15);
        fault("tramp if 00001 < 3 pass;", 9);
        fault("tramp if day<3pass;", -1);
        fault("trampif day<3pass;", 0);
        fault("tramp if3<day pass;", -1);
        fault("tramp if ((( day < 3 ))) pass;", -1);
        fault("tramp if (((( day < 3 )))) pass;", 12);
        fault("tramp if (((day<3))) or not(((day>3))) pass;", -1);
        fault("tramp if (((day<3) or ((day<3)))) pass;", 23);
        fault("tramp if (day < 3 pass;", 18);
        fault("tramp if day < 3) pass;", 16);
        fault("tramp if () pass;", 10);
        fault("tramp if (day) < 3 pass;", 13);
        fault("tramp if (day < 3", 17);
        fault("tramp if not pass;", 13);
        fault("tramp if not not not day < 3 pass;", -1);
        fault("tramp if day not < 3 pass;", 13);
        fault("tramp if day < not 3 pass;", 15);
        fault("tramp if day < 3 and pass;", 21);
        fault("tramp if day < 3 or", 19);
        fault("tramp if day < 3 or or day < 3 pass;", 20);
        fault("tramp if day < 3 if day < 3 pass;", 17);
        fault("tramp if tramp < 3 pass;", 9);
        fault("tramp pass; person break; 7", 26);
        fault("tramp pass;\u00e9", 11);
        fault("\u0000", 0);
    }

    /** Whether a condition holds for a pilgrim (number 1, tale 9, strange 17 by the dust) on day 0 with snow 2. */
    private static void holds(String condition, boolean so) {
        BrokenLoaves x = Check.five();
        x.house(0, 2);
        Check.due("14 rules " + condition, Check.rules(x, "pilgrim if " + condition + " shut;"), 1);
        Check.due("14 " + condition, x.personOf(1, 8), so ? 2 : 0);
    }

    private static void conditions() {
        holds("1 < 2", true);
        holds("2 < 2", false);
        holds("2 = 2", true);
        holds("1 = 2", false);
        holds("2 > 1", true);
        holds("2 > 2", false);
        holds("not 1 < 2", false);
        holds("not not 1 < 2", true);
        holds("1<2 and 2<1", false);
        holds("1<2 or 2<1", true);
        holds("2<1 or 1<2", true);
        holds("1<2 or 1<2 and 2<1", true);
        holds("2<1 and 1<2 or 1<2", true);
        holds("(1<2 or 1<2) and 2<1", false);
        holds("2<1 and (1<2 or 1<2)", false);
        holds("not 2<1 and 2<1", false);
        holds("not (2<1 and 2<1)", true);
        holds("not (1<2 or 2<1)", false);
        holds("2<1 or (1<2 and (2<1 or (2<1 or 1<2)))", true);
        holds("1<2 and 1<2 and 2<1", false);
        holds("2<1 or 2<1 or 1<2", true);
        holds("2<1 or 1<2 and (2<1 or 1<2 and (2<1 or 1<2 and (2<1 or 1<2 and 1<2)))", true);
    }

    private static void facts() {
        holds("day = 0", true);
        holds("tale = 9", true);
        holds("strange = 17", true);
        holds("snow = 2", true);
        holds("number = 1", true);
        holds("strange > tale", true);
        holds("9999 > number", true);
        BrokenLoaves x = Check.five();
        // snow as it is behind the weather of the day
        Check.rules(x, "person if snow = 1 pass; person if day = 1 shut;");
        Check.due("14 snow now", x.personOf(0, 8), 0);
        Check.due("14 by snow then", x.day(), 1);
        x.weather(1, 15);
        Check.due("14 by day", x.day(), 1);
        x.house(0, 0);
        x.ends(3);
        x.anew();
        x.weather(0, 15);
        Check.due("14 break", x.day(), 27);
        Check.due("14 shut", x.day(), 0);
        Check.due("14 shut: not met", x.state(4), 1);
        x.weather(2, 15);
        Check.rules(x, "pilgrim if strange > 14 and tale = 9 shut; pilgrim pass;");
        Check.due("14 strange still", x.personOf(1, 8), 2);
        x.change(1, 4, 2);
        Check.due("14 strange still, met", x.personOf(1, 8), 1);
    }

    /** A shorter text comes behind a longer one, of which nothing is left. */
    private static void shorterTexts() {
        BrokenLoaves x = Check.five();
        Check.rules(x, "friend pass; tramp shut; pilgrim shut;");
        Check.due("14 one rule", Check.rules(x, "friend pass;"), 1);
        Check.due("14 the second is gone", x.personOf(0, 8), 0);
        Check.due("14 the third is gone", x.personOf(1, 8), 0);
        Check.rules(x, "tramp passes if day < 12345678;");
        Check.due("14 a name at the end", Check.rules(x, "tramp pass"), -100 - 10);
        Check.rules(x, "tramp 9999999999999999999999999999999999");
        Check.due("14 a number at the end", Check.rules(x, "tramp if day < 1234"), -100 - 19);
        Check.due("14 no rule is left", Check.rules(x, ""), 0);
        Check.due("14 break then", x.personOf(2, 8), 0);
    }

    private static void kinds() {
        String[] names = {"person", "tramp", "pilgrim", "bishop", "friend", "double"};
        // who is told, by kind: five() has a tramp, a pilgrim, a friend, a double, a bishop
        int[][] told = {{1, 1, 1, 1, 1}, {1, 0, 0, 0, 0}, {0, 1, 0, 0, 1}, {0, 0, 0, 0, 1}, {0, 0, 1, 1, 0}, {0, 0, 0, 1, 0}};
        for (int kind = 0; kind < 6; kind++) {
            BrokenLoaves x = Check.five();
            Check.rules(x, names[kind] + " pass;");
            for (int k = 0; k < 5; k++) Check.due("14 " + names[kind] + " tells " + k, x.personOf(k, 8), told[kind][k]);
        }
        BrokenLoaves x = Check.five();
        Check.rules(x, "pilgrim if day > 0 shut; bishop pass; person break; tramp shut;");
        int[] wills = {0, 0, 0, 0, 1};
        for (int k = 0; k < 5; k++) Check.due("14 the first one tells " + k, x.personOf(k, 8), wills[k]);
    }

    private static void aFaultChangesNothing() {
        BrokenLoaves x = Check.five();
        Check.rules(x, "tramp pass; pilgrim shut;");
        String before = Check.portrait(x);
        Check.due("14 fault", Check.rules(x, "tramp break; pilgrim break; bishop nod;"), -100 - 35);
        Check.same("14 rules are as they were", Check.portrait(x), before);
        Check.tape(x, "tramp");
        before = Check.portrait(x);
        x.feed(7, 0);
        x.feed(7, 9);
        Check.same("13 refused", Check.portrait(x), before);
        Check.due("13 goes on", Check.rules(x, " shut;"), 1);
        Check.due("13 as one text", x.personOf(0, 8), 2);
    }
}

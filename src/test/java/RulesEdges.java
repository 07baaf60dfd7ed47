/** Boundaries of promises 13 and 14: the tape, the text of the rules. */
final class RulesEdges extends Edge {
    void all() {
        feed();
        fullTape();
        rules();
        howManyRules();
        names();
        numbers();
        blanks();
        otherBytes();
        brackets();
        whatMustCome();
        conditions();
        facts();
        tellers();
    }

    private static BrokenLoaves taped(int bytes) {
        BrokenLoaves x = new BrokenLoaves();
        Check.tape(x, blanks(bytes));
        return x;
    }

    private static String blanks(int count) {
        StringBuilder s = new StringBuilder();
        for (int i = 0; i < count; i++) s.append(' ');
        return s.toString();
    }

    private void feed() {
        says(13, "n bytes (1 to 8) come to THE TAPE", () -> {
            for (int n = 1; n <= 8; n++) is("bytes", new BrokenLoaves().feed(-1L, n), n);
            outside(1, 8, BUSY, (x, v) -> x.feed(0x3b3b3b3b3b3b3b3bL, v));
            outside(1, 8, EMPTY, (x, v) -> x.feed(0x3b3b3b3b3b3b3b3bL, v));
        });
        says(13, "the lowest of eight first", () -> {
            BrokenLoaves x = new BrokenLoaves();
            // "tramp pa", "ss;" and five bytes that are left out
            x.feed(0x6170_2070_6d61_7274L, 8);
            x.feed(0x2121_2121_213b_7373L, 3);
            is("told", x.rules(), 1);
            // the same bytes, the highest first, tell nothing
            x.feed(0x7472_616d_7020_7061L, 8);
            is("the other way round", x.rules(), -100);
            // the highest of eight is the eighth
            x.feed(0x2120_2020_2020_2020L, 8);
            is("the eighth byte", x.rules(), -107);
            x.feed(0x2120_2020_2020_2020L, 7);
            is("the eighth is left out of seven", x.rules(), 0);
        });
        says(13, "how many it has", () -> {
            BrokenLoaves x = new BrokenLoaves();
            int has = 0;
            for (int n = 1; n <= 8; n++) {
                has += n;
                is("with " + n + " more", x.feed(0, n), has);
                is("many bytes", x.many(5), has);
            }
        });
        says(13, "THE TAPE takes bytes", () -> {
            for (int b = 0; b < 256; b++) {
                BrokenLoaves x = new BrokenLoaves();
                is("byte " + b, x.feed(b, 1), 1);
                is("alone tells no RULE", x.rules(), b == 32 ? 0 : -100);
            }
        });
    }

    private void fullTape() {
        says(13, "FULL: more than 200.", () -> {
            for (int n = 1; n <= 8; n++) {
                int bytes = n;
                is("200 by " + n, taped(200 - n).feed(0x2020202020202020L, n), 200);
                refuses(FULL, () -> taped(201 - bytes), x -> x.feed(0x2020202020202020L, bytes));
                refuses(FULL, CROWDED, x -> x.feed(0x3b3b3b3b3b3b3b3bL, bytes));
            }
            BrokenLoaves x = taped(196);
            is("5 are too many", x.feed(0x2121212121L, 5), FULL);
            is("none of them came", x.many(5), 196);
            is("4 are not", x.feed(0x21202020, 4), 200);
            is("the 200th byte", x.rules(), -299);
        });
        says(13, "BAD; FULL", () -> {
            refuses(BAD, CROWDED, x -> x.feed(0, 9));
            refuses(BAD, CROWDED, x -> x.feed(0, 0));
            refuses(BAD, CROWDED, x -> x.feed(0, -1));
            refuses(BAD, CROWDED, x -> x.feed(0, Integer.MAX_VALUE));
        });
        says(13, "THE TAPE takes bytes, 200 at most; rules() uses it up.", () -> {
            BrokenLoaves x = taped(200);
            x.rules();
            is("room again", x.feed(0, 8), 8);
        });
    }

    private void rules() {
        says(14, "rules() uses it up", () -> {
            BrokenLoaves x = new BrokenLoaves();
            is("told", Check.rules(x, "tramp pass;"), 1);
            is("used up", x.many(5), 0);
            is("a FAULT", Check.rules(x, "tramp pass"), -110);
            is("used up by a FAULT, too", x.many(5), 0);
            Check.tape(x, "tramp");
            Check.tape(x, " pass;");
            is("bytes that came one behind the other", x.rules(), 1);
        });
        says(14, "such a call changes nothing (but that THE TAPE is used up by rules())", () -> {
            String untaped = Portrait.of(UNTAPED.make());
            for (String text : new String[] {"z", "tramp", "person shut; person pass; tram", "person shut; person if day < 3 pass"}) {
                BrokenLoaves x = UNTAPED.make();
                is("a FAULT", Check.rules(x, text) <= -100 ? 1 : 0, 1);
                is("used up", x.many(5), 0);
                is("RULES stay", x.many(1), 2);
                Check.same("14 a FAULT of '" + text + "' changes nothing", Portrait.of(x), untaped);
            }
        });
        says(14, "THE TAPE tells THE RULES (in place of all): how many", () -> {
            BrokenLoaves x = Roads.people(5);
            is("three", Check.rules(x, "tramp shut; pilgrim shut; friend shut;"), 3);
            is("one in place of three", Check.rules(x, "friend pass;"), 1);
            is("many RULES", x.many(1), 1);
            int[] wills = {0, 0, 0, 1, 1};
            for (int k = 0; k < 5; k++) is("WILL of " + k, x.personOf(k, 8), wills[k]);
            is("none in place of one: no bytes", x.rules(), 0);
            is("many RULES", x.many(1), 0);
            is("break then", x.personOf(3, 8), 0);
            Check.rules(x, "friend pass;");
            is("none in place of one: blanks", Check.rules(x, "   "), 0);
            is("break then", x.personOf(3, 8), 0);
        });
        says(14, "-100 less its FAULT", () -> {
            is("the first byte", Check.rules(new BrokenLoaves(), "?"), -100);
            is("the second byte", Check.rules(new BrokenLoaves(), " ?"), -101);
            is("the last of 200", Check.rules(new BrokenLoaves(), blanks(199) + "?"), -299);
            is("the end of 200", Check.rules(new BrokenLoaves(), blanks(195) + "tramp"), -300);
            is("the end of 199", Check.rules(new BrokenLoaves(), "tramp" + blanks(194)), -299);
        });
    }

    /** The text without its ^ has its fault there; without any ^ it tells so many rules. */
    private static void text(String marked, int rules) {
        int place = marked.indexOf('^');
        String text = marked.replace("^", "");
        is("'" + marked + "'", Check.rules(new BrokenLoaves(), text), place < 0 ? rules : -100 - place);
    }

    private static void fault(String... marked) {
        for (String m : marked) text(m, -1);
    }

    private static void right(String... texts) {
        for (String t : texts) text(t, 1);
    }

    private static String times(int count, String part) {
        StringBuilder s = new StringBuilder();
        for (int i = 0; i < count; i++) s.append(part);
        return s.toString();
    }

    private void howManyRules() {
        says(14, "8 RULES at most", () -> {
            for (int count = 0; count <= 8; count++) text(times(count, "tramp pass;"), count);
            text(times(8, "tramp pass;") + "   ", 8);
            BrokenLoaves x = Roads.people(6);
            is("8", Check.rules(x, times(7, "friend pass;") + "double shut; "), 8);
            is("the eighth does not tell what the first told", x.personOf(4, 8), 1);
            Check.rules(x, times(7, "bishop pass;") + "double shut; ");
            is("the eighth tells", x.personOf(4, 8), 2);
        });
        says(14, "the first NAME of the ninth RULE, too", () -> {
            fault(times(8, "tramp pass;") + "^tramp pass;");
            fault(times(8, "tramp pass;") + "  ^double");
            fault(times(8, "tramp pass;") + "^nobody pass;");
            fault(times(8, "tramp pass;") + "^7");
            fault(times(8, "tramp pass;") + "^;");
        });
        says(14, "{ KIND DO ; | KIND if COND DO ; }", () -> {
            right("tramp pass;", "tramp if day=0 pass;");
            fault("tramp pass^", "^pass;", "^;", "^if day=0 pass;", "tramp pass;^;", "tramp pass ^if day=0;", "tramp pass ^pass;",
                "tramp ^;", "tramp ^tramp pass;", "tramp if day=0^;", "tramp if day=0 pass ^tramp pass;", "tramp ^day=0 pass;",
                "tramp if ^if day=0 pass;", "tramp pass; ^pass;");
        });
    }

    private void names() {
        says(14, "KIND: person | tramp | pilgrim | bishop | friend | double.", () -> {
            for (String kind : new String[] {"person", "tramp", "pilgrim", "bishop", "friend", "double"}) {
                right(kind + " pass;");
                fault("^" + kind + "s pass;", "^" + kind.substring(1) + " pass;", "^" + kind.substring(0, kind.length() - 1) + " pass;");
                fault("tramp ^" + kind + ";", "tramp if ^" + kind + " < 3 pass;");
            }
        });
        says(14, "DO: break | pass | shut.", () -> {
            for (String deed : new String[] {"break", "pass", "shut"}) {
                right("tramp " + deed + ";");
                fault("tramp ^" + deed + "s;", "tramp ^" + deed.substring(1) + ";", "tramp ^" + deed.substring(0, deed.length() - 1) + ";");
                fault("^" + deed + " " + deed + ";", "tramp if day < ^" + deed + " pass;");
            }
        });
        says(14, "VALUE: N | day | tale | strange | snow | number", () -> {
            for (String value : new String[] {"day", "tale", "strange", "snow", "number"}) {
                right("tramp if " + value + "<3 pass;", "tramp if 3<" + value + " pass;");
                fault("tramp if ^" + value + "s<3 pass;", "tramp if 3<^" + value.substring(1) + " pass;", "^" + value + " pass;", "tramp ^" + value + ";");
            }
        });
        says(14, "NAMES are rows of letters a to z", () -> {
            fault("^Tramp pass;", "^TRAMP pass;", "tramp ^Pass;", "tramp ^pasS;", "^tramppass;", "^trampif day=0 pass;",
                "tramp ^ifday=0 pass;", "tramp if ^notday=0 pass;", "tramp if day=0 ^andday=0 pass;", "tramp if day=0 ^orday=0 pass;");
            fault("^zramp pass;", "^aramp pass;", "^a", "^z", "^person" + times(60, "a") + " pass;");
        });
        says(14, "both as long as they go", () -> {
            fault("^tramptramp pass;", "tramp ^passpass;", "tramp if day<^00000 pass;");
            right("tramp if day<3pass;", "tramp if 3<4or 4<3and 3<4shut;", "tramp if not(day<3)pass;", "tramp if3<4pass;");
        });
    }

    private void numbers() {
        says(14, "NUMBERS rows of digits (1 to 4)", () -> {
            right("tramp if 0<1 pass;", "tramp if 10<11 pass;", "tramp if 100<111 pass;", "tramp if 1000<1111 pass;", "tramp if 0000<0001 pass;");
            fault("tramp if ^10000<1 pass;", "tramp if 1<^10000 pass;", "tramp if ^00000<1 pass;", "tramp if 1<^00001 pass;", "tramp if day = ^"
                + times(20, "9") + " pass;", "tramp if ^12345", "tramp if ^4294967296 < 1 pass;", "tramp if day<^1000000000000000000001 pass;");
        });
        says(14, "(a NUMBER of more digits,", () -> fault("tramp if day<3 and 12 = ^12345 pass;", "tramp if (^99999<1) pass;", "^99999"));
        says(14, "N are NUMBERS 0 to 9999.", () -> {
            String[][] signs = {{"0=0", "1"}, {"0<1", "1"}, {"0>0", "0"}, {"9999=9999", "1"}, {"9998<9999", "1"}, {"9999>9998", "1"}, {"9999<9999", "0"},
                {"0007=7", "1"}, {"0010=8", "0"}, {"0010=10", "1"}, {"1000=0100", "0"}, {"9999>snow", "1"}, {"1234=1234", "1"}, {"1234=4321", "0"}};
            for (String[] s : signs) is(s[0], holds(s[0]), s[1].equals("1") ? 1 : 0);
        });
        says(14, "NUMBERS rows of digits", () -> fault("^3 pass;", "tramp ^3;", "tramp if 3 ^3<4 pass;", "tramp if day ^3 pass;", "tramp if 3<4 ^5 pass;", "tramp pass ^3;"));
    }

    private void blanks() {
        says(14, "blanks (32) part them, and stand elsewhere as one likes", () -> {
            right("tramp pass;", "  tramp   pass  ;  ", "tramp if(day<3)pass;", " tramp  if  ( day  <  3 )  pass ; ", "tramp if not(day<3)pass;",
                "tramp if day<3 and snow<3 or tale<3 pass;");
            fault("^tra mp pass;", "tramp ^pa ss;", "tramp if 1 ^2<3 pass;", "tramp if ^da y<3 pass;");
            right("tramp pass;" + blanks(189));
            right(blanks(189) + "tramp pass;");
            right("tramp" + blanks(190) + "pass;");
        });
    }

    private void otherBytes() {
        says(14, "or other byte that can't stand there", () -> {
            for (int b = 0; b < 256; b++) {
                char c = (char) b;
                boolean letter = c >= 'a' && c <= 'z';
                if (letter || c == ' ' || c == '^') continue;
                fault("tramp pass;^" + c, "tramp ^" + c + "pass;");
                if (c != ';') fault("tramp pass^" + c + ";");
                boolean sign = c == '<' || c == '=' || c == '>';
                boolean digit = c >= '0' && c <= '9';
                if (!sign) fault("tramp if day ^" + c + "3 pass;");
                else right("tramp if day " + c + "3 pass;");
                if (!digit) fault("tramp if day<^" + c + " pass;");
                else right("tramp if day<" + c + " pass;");
            }
            // beside the letters, the digits, the blank and the signs
            fault("^`", "^{", "^/", "^:", "^@", "^[", "tramp^\u001fpass;", "tramp^!pass;", "tramp if day ^;3 pass;", "tramp if day ^?3 pass;");
            fault("tramp^\tpass;", "tramp^\npass;", "tramp pass;^\r", "tramp pass;^\u0000", "tramp^\u00a0pass;", "^\u00ff", "^\u0080");
        });
        says(14, "SIGN: < | = | >", () -> fault("tramp if day <^= 3 pass;", "tramp if day =^= 3 pass;", "tramp if day >^< 3 pass;", "tramp if ^< 3 pass;", "tramp if day<^>pass;"));
    }

    private void brackets() {
        says(14, "At most 3 \"(\" are open within one another.", () -> {
            right("tramp if (day<3) pass;", "tramp if ((day<3)) pass;", "tramp if (((day<3))) pass;");
            right("tramp if (((day<3))) or (((day<3))) and not (((day<3))) pass;");
            right("tramp if (((day<3) or (day<3)) and ((day<3) or (day<3))) pass;");
            right("tramp if (day<3) and (day<3) and (day<3) and (day<3) pass;");
        });
        says(14, "the fourth \"(\"", () -> {
            fault("tramp if (((^(day<3)))) pass;", "tramp if (((day<3 or ^(day<3)))) pass;", "tramp if ( ( ( ^( day<3 ) ) ) ) pass;",
                "tramp if (((not ^(day<3)))) pass;", "tramp if (((day<3))) or (((^(day<3)))) pass;", "tramp if (((^((((((", "tramp if (((^(");
            text("tramp if (((day<3))) pass; tramp if (((day<3))) pass;", 2);
            fault("tramp if (((day<3))) pass; tramp if (((^(day<3)))) pass;");
        });
        says(14, "ONE: { not } ( VALUE SIGN VALUE | \"(\" COND \")\" )", () -> {
            fault("tramp if (^) pass;", "tramp if (day^) pass;", "tramp if (day<3 ^pass;", "tramp if (day<3^; pass;", "tramp if day<3^) pass;",
                "tramp if ((day<3) ^pass;", "tramp if (day<3)^)", "tramp if (day^) < 3 pass;", "tramp if not ^pass;",
                "tramp if day ^not < 3 pass;", "tramp if day < ^not 3 pass;", "tramp if ^and day<3 pass;", "tramp if day<3 and ^pass;", "tramp if day<3 or ^or day<3 pass;",
                "tramp if (day<3 or^) pass;", "tramp if 3<day^<5 pass;", "tramp if (day<3) ^< 3 pass;", "tramp if (day<3) ^(day<3) pass;");
            right("tramp if not not not not day<3 pass;", "tramp if not (not (not (day<3))) pass;");
            right("tramp if" + times(40, " not") + " day<3 pass;");
        });
    }

    private void whatMustCome() {
        says(14, "or the end (how many bytes there are), if more must come.", () -> {
            fault("tramp^", "tramp pass^", "tramp if^", "tramp if day^", "tramp if day<^", "tramp if day<3^", "tramp if day<3 and^",
                "tramp if day<3 or^", "tramp if not^", "tramp if (^", "tramp if (day<3^", "tramp if (day<3)^", "tramp if day<3 pass^");
            fault("tramp  ^", "tramp pass   ^", "tramp if day<3   ^", "tramp pass; tramp^", "tramp pass; tramp  ^");
            // the first letters of a name that goes no further are another name
            fault("^tram", "tramp ^pas", "tramp if ^da", "tramp if day<3 ^an");
        });
        says(14, "FAULT: the place (from 0) of the first byte of the first NAME, NUMBER or other byte that can't stand there", () -> {
            fault("^nobody nothing;", "tramp ^nothing nobody", "tramp if day ^day ? ?", "tramp pass; pilgrim shut; ^? ?");
            fault("   ^nobody pass;", "tramp   ^nothing;", "tramp pass;   ^12 pass;");
        });
    }

    /** Whether a condition holds for person 1: on day 0, with tale 9, strange 17, snow 2. */
    private static int holds(String condition) {
        BrokenLoaves x = Check.five();
        x.house(0, 2);
        is("'" + condition + "' is a condition", Check.rules(x, "pilgrim if " + condition + " shut;"), 1);
        return x.personOf(1, 8) == 2 ? 1 : 0;
    }

    private void conditions() {
        says(14, "COND: ALL { or ALL } ALL: ONE { and ONE }", () -> {
            String[] values = {"0=1", "0=0"};
            for (int abc = 0; abc < 8; abc++) {
                boolean a = (abc & 1) != 0;
                boolean b = (abc & 2) != 0;
                boolean c = (abc & 4) != 0;
                String ta = values[abc & 1];
                String tb = values[abc >> 1 & 1];
                String tc = values[abc >> 2 & 1];
                is("or, and", holds(ta + " or " + tb + " and " + tc), a || b && c ? 1 : 0);
                is("and, or", holds(ta + " and " + tb + " or " + tc), a && b || c ? 1 : 0);
                is("(or), and", holds("(" + ta + " or " + tb + ") and " + tc), (a || b) && c ? 1 : 0);
                is("and, (or)", holds(ta + " and (" + tb + " or " + tc + ")"), a && (b || c) ? 1 : 0);
                is("not ahead of one", holds("not " + ta + " and " + tb + " or " + tc), !a && b || c ? 1 : 0);
                is("not ahead of (", holds("not (" + ta + " or " + tb + ") or " + tc), !(a || b) || c ? 1 : 0);
                is("not not", holds("not not " + ta + " and not not not " + tb), a && !b ? 1 : 0);
            }
        });
        says(14, "At most 3 \"(\"", () -> {
            // as many truths wait as ever can: one for each or, each and, of four levels
            String deep = "0=1 or 0=0 and (0=1 or 0=0 and (0=1 or 0=0 and (0=1 or 0=0 and %)))";
            is("deepest so", holds(deep.replace("%", "0=0")), 1);
            is("deepest not so", holds(deep.replace("%", "0=1")), 0);
            is("all but the deepest", holds("0=1 or 0=0 and (0=1 or 0=0 and (0=1 or 0=0 and (0=0 or 0=1 and 0=1)))"), 1);
        });
        says(14, "SIGN: < | = | >", () -> {
            String[] signs = {"<", "=", ">"};
            for (int sign = 0; sign < 3; sign++) {
                for (int n = 8; n <= 10; n++) {
                    int due = sign == 0 ? (9 < n ? 1 : 0) : sign == 1 ? (9 == n ? 1 : 0) : (9 > n ? 1 : 0);
                    is("tale" + signs[sign] + n, holds("tale" + signs[sign] + n), due);
                    is("9" + signs[sign] + n, holds("9" + signs[sign] + n), due);
                }
            }
        });
    }

    private void facts() {
        says(14, "FACTS: the DAY that goes by; its TALE, how STRANGE it is STILL, SNOW then; its number.", () -> {
            String[] facts = {"day", "tale", "strange", "snow", "number"};
            int[] is = {0, 9, 17, 2, 1};
            for (int f = 0; f < 5; f++) {
                is(facts[f] + " is", holds(facts[f] + "=" + is[f]), 1);
                is(facts[f] + " is not more", holds(facts[f] + ">" + is[f]), 0);
                is(facts[f] + " is less than 1 more", holds(facts[f] + "<" + (is[f] + 1)), 1);
                is(facts[f] + " at the right", holds(is[f] + "=" + facts[f]), 1);
                for (int g = 0; g < 5; g++) is(facts[f] + "<" + facts[g], holds(facts[f] + "<" + facts[g]), is[f] < is[g] ? 1 : 0);
            }
        });
        says(14, "the DAY that goes by", () -> {
            for (int day = 0; day < 16; day++) {
                BrokenLoaves x = Roads.one(1, 60, 9);
                x.ends(16);
                Check.rules(x, "tramp if day=" + day + " pass; tramp shut;");
                for (int d = 0; d < 16; d++) is("DAY " + d + " of " + day, Roads.go(x, 1), d == day ? 1 : 0);
            }
        });
        says(14, "SNOW then", () -> {
            for (int snow = 0; snow <= 9; snow++) {
                BrokenLoaves x = new BrokenLoaves();
                x.person(1, 60, 9, 0);
                x.gate(0, 1, 9);
                x.house(0, snow);
                x.weather(0, 12);
                Check.rules(x, "tramp if snow=" + Math.min(9, snow + 3) + " pass; tramp shut;");
                is("SNOW behind (1), from " + snow, Roads.go(x, 1), 1);
            }
        });
        says(14, "how STRANGE it is STILL", () -> {
            BrokenLoaves x = Roads.one(1, 60, 9);
            Check.rules(x, "tramp if strange>14 pass; tramp shut;");
            is("18", Roads.go(x, 1), 1);
            is("16, being met once", Roads.go(x, 1), 1);
            is("14, being met twice", Roads.go(x, 1), 0);
            x.change(0, 4, 9);
            Check.rules(x, "tramp if strange=0 pass; tramp shut;");
            is("0, being met 9 times", Roads.go(x, 1), 1);
        });
        says(14, "its number", () -> {
            for (int k = 0; k < 6; k++) {
                BrokenLoaves x = Roads.people(6);
                Check.rules(x, "person if number=" + k + " shut;");
                for (int j = 0; j < 6; j++) is("number " + k + " of " + j, x.personOf(j, 8), j == k ? 2 : 0);
            }
        });
    }

    private void tellers() {
        says(14, "the first of THE RULES whose KIND is its or above it, and whose condition holds, tells it", () -> {
            String[] names = {"person", "tramp", "pilgrim", "bishop", "friend", "double"};
            boolean[][] told = new boolean[6][6];
            for (int kind = 1; kind <= 5; kind++) told[0][kind] = told[kind][kind] = true;
            told[2][3] = told[4][5] = true;
            for (int rule = 0; rule < 6; rule++) {
                for (int kind = 1; kind <= 5; kind++) {
                    BrokenLoaves x = new BrokenLoaves();
                    x.person(kind, 1, 1, 1);
                    Check.rules(x, names[rule] + " shut;");
                    is(names[rule] + " tells " + names[kind], x.personOf(0, 8), told[rule][kind] ? 2 : 0);
                }
            }
            BrokenLoaves x = Roads.people(5);
            Check.rules(x, "bishop if 0=1 shut; person if number=2 pass; bishop shut; person break; person shut;");
            int[] wills = {0, 0, 1, 0, 0};
            for (int k = 0; k < 5; k++) is("the first that holds tells " + k, x.personOf(k, 8), wills[k]);
        });
        says(14, "break (if no RULE tells)", () -> {
            BrokenLoaves x = Roads.people(5);
            Check.rules(x, "person if 0=1 shut; friend if day=1 pass;");
            for (int k = 0; k < 5; k++) is("WILL of " + k, x.personOf(k, 8), 0);
        });
    }
}

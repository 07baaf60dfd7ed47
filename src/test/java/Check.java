/** What the tests share: answers that are due, texts for the tape, and a portrait of all that can be seen. */
final class Check {
    private static int wrong = 0;

    private Check() {
    }

    static void due(String call, long got, long want) {
        if (got != want) {
            wrong++;
            System.out.println(call + " answered " + got + ", due is " + want);
        }
    }

    static void same(String what, String got, String want) {
        if (!got.equals(want)) {
            wrong++;
            System.out.println(what + ":\n  is  " + got + "\n  due " + want);
        }
    }

    static void finish() {
        if (wrong != 0) {
            System.out.println(wrong + " answers are not as due");
            System.exit(1);
        }
    }

    static void tape(BrokenLoaves x, String text) {
        for (int i = 0; i < text.length(); i += 8) {
            int n = Math.min(8, text.length() - i);
            long eight = 0;
            for (int j = 0; j < n; j++) eight |= (long) (text.charAt(i + j) & 255) << (8 * j);
            x.feed(eight, n);
        }
    }

    static int rules(BrokenLoaves x, String text) {
        tape(x, text);
        return x.rules();
    }

    /** Five people by three gates, as the runs under ../shared/tests have them. */
    static BrokenLoaves five() {
        BrokenLoaves x = new BrokenLoaves();
        x.gate(0, 0, 2);
        x.gate(1, 0, 5);
        x.gate(2, 1, 3);
        x.person(1, 14, 8, 0);
        x.person(2, 16, 9, 1);
        x.person(4, 20, 5, 2);
        x.person(5, 25, 6, 0);
        x.person(3, 18, 9, 1);
        return x;
    }

    static String portrait(BrokenLoaves x) {
        StringBuilder s = new StringBuilder();
        for (int i = 0; i < 9; i++) s.append(x.state(i)).append(' ');
        for (int i = 0; i < 7; i++) s.append(x.many(i)).append(' ');
        for (int k = 0; k < x.many(0); k++) {
            for (int i = 0; i < 10; i++) s.append(x.personOf(k, i)).append(i == 9 ? ';' : ',');
        }
        for (int g = 0; g < 6; g++) s.append(" g").append(x.gateOf(g, 0)).append(',').append(x.gateOf(g, 1));
        for (int d = 0; d < 16; d++) {
            int w = x.weather(d, 0);
            x.weather(d, w);
            s.append(" w").append(w);
        }
        int z = x.seed(0);
        x.seed(z);
        s.append(" z").append(z);
        for (int k = 0; k < x.many(4); k++) {
            for (int i = 0; i < 3; i++) s.append(" r").append(x.row(k, i));
        }
        for (int i = 0; i < x.many(6); i++) s.append(" t").append(x.trace(i));
        for (int sheet = 0; sheet < 4; sheet++) {
            for (int sort = 0; sort < 5; sort++) {
                for (int i = 0; i < 41; i++) {
                    int v = x.item(sheet, sort, i);
                    if (v == -11 || v == -13 || v == -12) {
                        s.append(" i").append(sheet).append(sort).append(i).append(v);
                        break;
                    }
                    s.append(" i").append(v);
                }
            }
            for (int as = 0; as < 15; as++) s.append(" h").append(x.taken(sheet, as));
        }
        s.append(" tales ").append(x.tales(0)).append(' ').append(x.tales(1)).append(' ').append(x.tales(2));
        s.append(' ').append(x.tales(3)).append(" liar ").append(x.liar());
        return s.toString();
    }
}

/**
 * All that can be seen of an object, in fewer than 400 calls, so that the whole
 * life of an object that is looked at stays within the document's 512. Looking
 * uses the object up: weather, z, the tape, and what was kept are read last by
 * calls that change them.
 */
final class Portrait {
    private Portrait() {
    }

    static String of(BrokenLoaves x) {
        StringBuilder s = new StringBuilder();
        for (int what = 0; what < 7; what++) s.append(x.many(what)).append(' ');
        rows(x, s);
        host(x, s);
        road(x, s.append(" NOW"));
        // the bytes of the tape are seen by what they tell
        s.append(" TAPE ").append(x.rules()).append(' ').append(x.many(1));
        for (int k = 0; k < x.many(0); k++) s.append(' ').append(x.personOf(k, 8));
        s.append(" KEPT ").append(x.again());
        road(x, s);
        return s.toString();
    }

    private static void road(BrokenLoaves x, StringBuilder s) {
        for (int what = 0; what < 9; what++) s.append(' ').append(x.state(what));
        for (int k = 0; k < x.many(0); k++) {
            s.append(" p");
            for (int what = 0; what < 10; what++) s.append(x.personOf(k, what)).append(',');
        }
        for (int g = 0; g < 6; g++) s.append(" g").append(x.gateOf(g, 0)).append(',').append(x.gateOf(g, 1));
        s.append(" m").append(x.many(1)).append(',').append(x.many(3));
        s.append(" r").append(x.on(16)).append(',').append(x.winter(1)).append(',').append(x.best(2));
        for (int what = 0; what < 4; what++) s.append(" t").append(x.tales(what));
        s.append(" l").append(x.liar());
        for (int d = 0; d < 16; d++) s.append(" w").append(x.weather(d, 3));
        s.append(" z").append(x.seed(1));
    }

    private static void rows(BrokenLoaves x, StringBuilder s) {
        for (int k = 0; k < x.many(4); k++) {
            for (int what = 0; what < 3; what++) s.append(" r").append(x.row(k, what));
        }
        for (int i = 0; i < x.many(6); i++) s.append(" b").append(x.trace(i));
    }

    private static void host(BrokenLoaves x, StringBuilder s) {
        for (int sheet = 0; sheet < 4; sheet++) {
            s.append(" s");
            for (int sort = 0; sort < 5; sort++) {
                int i = 0;
                while (i < 6 && x.item(sheet, sort, i) > -11) {
                    s.append(x.item(sheet, sort, i)).append(',');
                    i++;
                }
                s.append(x.item(sheet, sort, i)).append(';');
            }
        }
        for (int shelf = 0; shelf < 4; shelf++) {
            s.append(" h");
            for (int as = 0; as < 15; as += as == 5 ? 5 : 1) s.append(x.taken(shelf, as)).append(',');
        }
    }
}

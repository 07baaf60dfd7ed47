/** Roads that boundary tests start from: made anew by the same calls each time. */
final class Roads {
    static final Edge.Maker EMPTY = BrokenLoaves::new;
    static final Edge.Maker UNTAPED = Roads::untaped;
    static final Edge.Maker BUSY = Roads::busy;
    static final Edge.Maker CROWDED_UNTAPED = Roads::crowdedUntaped;
    static final Edge.Maker CROWDED = Roads::crowded;
    static final Edge.Maker OVER = Roads::over;

    private Roads() {
    }

    /** So many people of kinds in turn, whose needs, tales and gates are all unlike. */
    static BrokenLoaves people(int count) {
        BrokenLoaves x = new BrokenLoaves();
        for (int k = 0; k < count; k++) x.person(1 + k % 5, 10 + 9 * k, 9 - k, k);
        return x;
    }

    /** No weather on any day, so that SNOW stays as it is. */
    static BrokenLoaves still() {
        BrokenLoaves x = new BrokenLoaves();
        for (int d = 0; d < 16; d++) x.weather(d, 3);
        return x;
    }

    /** A still road with one person at gate 0. */
    static BrokenLoaves one(int kind, int need, int tale) {
        BrokenLoaves x = still();
        x.person(kind, need, tale, 0);
        return x;
    }

    /** Gates that take nobody once it has snowed, so that days go by without anybody. */
    static BrokenLoaves goneBy(BrokenLoaves x, int days) {
        x.ends(16);
        for (int g = 0; g < 6; g++) x.gate(g, 1, 0);
        x.house(0, 9);
        for (int d = 0; d < days; d++) x.day();
        return x;
    }

    static void acts(BrokenLoaves x, int sheet, int... acts) {
        x.sheet(sheet, 0, acts.length);
        for (int i = 0; i < acts.length; i++) x.write(sheet, i, acts[i]);
    }

    /** One act as a day that really goes by: what it was worth. */
    static int go(BrokenLoaves x, int act) {
        acts(x, 3, act);
        return x.goAll(3, 0, 1);
    }

    /** Something of all that there is, but no bytes on the tape; day 2 of 12. */
    private static BrokenLoaves untaped() {
        BrokenLoaves x = Check.five();
        x.weather(3, 14);
        x.keep();
        x.day();
        x.lot();
        Check.rules(x, "tramp if day > 1 pass; bishop shut;");
        x.report(3, 0, 10, 30);
        x.report(4, 1, 2, 9);
        x.prove(2);
        acts(x, 0, 1, 2, 0, 4);
        x.sheet(1, 1, 2);
        x.write(1, 1, -300);
        x.sheet(2, 4, 0);
        x.shelf(0, 0, 1);
        x.shelf(1, 1, 0);
        x.shelf(3, 0, 4);
        x.act(3, 3, 9);
        return x;
    }

    private static BrokenLoaves busy() {
        BrokenLoaves x = untaped();
        Check.tape(x, "friend pa");
        return x;
    }

    /** The same, full: 6 people, 6 reports, 8 rules, 4 rows. */
    private static BrokenLoaves crowdedUntaped() {
        BrokenLoaves x = untaped();
        x.person(1, 30, 4, 3);
        for (int r = 2; r < 6; r++) x.report(r, 0, 1, 40 + r);
        StringBuilder eight = new StringBuilder("tramp pass;");
        for (int r = 1; r < 8; r++) eight.append("double if day = ").append(r).append(" shut;");
        Check.rules(x, eight.toString());
        x.prove(4);
        return x;
    }

    /** And 200 bytes. */
    private static BrokenLoaves crowded() {
        BrokenLoaves x = crowdedUntaped();
        StringBuilder text = new StringBuilder("friend shut;");
        while (text.length() < 200) text.append(' ');
        Check.tape(x, text.toString());
        return x;
    }

    private static BrokenLoaves over() {
        BrokenLoaves x = untaped();
        x.ends(2);
        return x;
    }
}

import java.util.HashMap;
import java.util.Map;
import java.util.Set;
import java.util.TreeMap;
import java.util.TreeSet;

/** What the parts of the boundary tests share. Each test names its promise and the document's words that it tests. */
abstract class Edge {
    static final int BAD = BrokenLoaves.BAD, FULL = BrokenLoaves.FULL, NONE = BrokenLoaves.NONE, STATE = BrokenLoaves.STATE;
    static final Maker EMPTY = Roads.EMPTY, UNTAPED = Roads.UNTAPED, BUSY = Roads.BUSY, CROWDED = Roads.CROWDED, OVER = Roads.OVER;

    interface Maker {
        BrokenLoaves make();
    }

    interface Call {
        int on(BrokenLoaves x);
    }

    interface With {
        int on(BrokenLoaves x, int v);
    }

    private static int promise;
    private static String sentence = "";
    private static final Map<Integer, Set<Integer>> refused = new TreeMap<>();
    private static final Map<Maker, String> portraits = new HashMap<>();

    /** Runs the tests of this part. */
    abstract void all();

    /** One sentence of the document (its promise, its words), and the test of it. */
    static void says(int itsPromise, String words, Runnable test) {
        promise = itsPromise;
        sentence = itsPromise + " \"" + words + "\"";
        refused.computeIfAbsent(promise, p -> new TreeSet<>());
        Check.due(sentence + " stands in the document", Doc.says(promise, words) ? 1 : 0, 1);
        test.run();
    }

    static void is(String what, long got, long due) {
        Check.due(sentence + ": " + what, got, due);
    }

    /** The call is refused so, and changes nothing. The maker is one that is kept, so that its portrait is drawn once. */
    static void refuses(int due, Maker maker, Call call) {
        BrokenLoaves x = maker.make();
        is("refused", call.on(x), due);
        Check.same(sentence + ": a call refused by " + due + " changes nothing", Portrait.of(x),
            portraits.computeIfAbsent(maker, m -> Portrait.of(m.make())));
        refused.get(promise).add(due);
    }

    /** The call is refused so; what it changes is told otherwise. */
    static void refusesOf(int due, int answer) {
        is("refused", answer, due);
        refused.get(promise).add(due);
    }

    /** The call answers so, and changes nothing: what is asked. */
    static void asks(int due, Maker maker, Call call) {
        is("asked", call.on(maker.make()), due);
        asks(maker, call);
    }

    /** The call, whatever it answers, changes nothing. */
    static void asks(Maker maker, Call call) {
        BrokenLoaves x = maker.make();
        call.on(x);
        Check.same(sentence + ": what is asked changes nothing", Portrait.of(x),
            portraits.computeIfAbsent(maker, m -> Portrait.of(m.make())));
    }

    /** From least to most the call is taken; the first numbers that are not, and others far off, are BAD. */
    static void range(int least, int most, Maker maker, With call) {
        for (int v = least; v <= most; v = v < least + 2 || v >= most - 2 ? v + 1 : most - 2) {
            is(v + " is taken", call.on(maker.make(), v) == BAD ? 0 : 1, 1);
        }
        outside(least, most, maker, call);
    }

    /** The numbers outside least to most are BAD. */
    static void outside(int least, int most, Maker maker, With call) {
        int[] far = {least - 1, most + 1, least - 2, most + 2, Integer.MIN_VALUE, Integer.MAX_VALUE, least + 256, least - 256,
            least + 65536, least + (1 << 30), least - (1 << 30)};
        for (int v : far) {
            if (v < least || v > most) refuses(BAD, maker, x -> call.on(x, v));
        }
    }

    /** What is set is then what is seen, at the least and the most and between; others are BAD. */
    static void held(int least, int most, Maker maker, With set, Call see) {
        for (int v : new int[] {least, least + 1, (least + most) / 2, most - 1, most}) {
            BrokenLoaves x = maker.make();
            is(v + " is taken", set.on(x, v) < 0 ? 0 : 1, 1);
            is(v + " is held", see.on(x), v);
        }
        outside(least, most, maker, set);
    }

    /** Each promise has a test, and each refusal that its section names was answered in one. */
    static void allWereNamed() {
        for (int p = 1; p <= Doc.PROMISES; p++) {
            Check.due("promise " + p + " has a boundary test", refused.containsKey(p) ? 1 : 0, 1);
            Set<Integer> due = new TreeSet<>(Doc.refusals(p));
            due.removeAll(refused.getOrDefault(p, new TreeSet<>()));
            Check.same("refusals of promise " + p + " that no test saw", due.toString(), "[]");
        }
    }
}

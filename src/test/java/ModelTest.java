import java.lang.reflect.Method;
import java.util.ArrayList;
import java.util.Arrays;
import java.util.List;
import java.util.Random;

/** Random runs of calls, all promises among them, against the model. */
public final class ModelTest {
    /** Name, weight, then from and to of each argument; some calls go out of these on purpose. */
    private static final String[] CALLS = {
        "person 5 1 5 0 60 0 9 0 5", "personOf 6 0 5 0 9", "change 8 0 5 1 5 0 9", "change 2 0 5 1 1 0 60", "remake 3 0 5 1 5",
        "weather 4 0 15 0 15", "gate 4 0 5 0 1 0 9", "gateOf 2 0 5 0 1", "house 1 0 1 0 9", "house 1 1 1 0 60", "house 1 1 1 0 999",
        "ends 2 1 16", "anew 1", "state 6 0 8", "day 3", "on 2 0 16", "when 2 0 5", "taleFor 2 0 5", "gateFor 2 0 5",
        "bakery 2 0 40", "winter 2 0 1", "tables 3 -1 5", "rounds 3 0 70 0 1", "best 1 0 4", "ith 1 0 4 0 3", "ways 1 0 4",
        "feast 2 0 3 0 63", "bars 2 0 3 0 63", "game 1 1 4", "play 1 1 3", "report 2 0 15 0 0 0 30 10 60", "report 2 0 15 1 1 0 5 3 9",
        "forget 1", "tales 1 0 3", "liar 1", "seed 1 -9999 9999", "lot 2", "times 1 1 40 0 150", "prove 1 0 4", "row 2 0 3 0 2",
        "alterRow 1 0 3 0 2 0 7", "judge 2", "sheet 1 0 3 -1 4 0 40", "sheet 2 0 3 0 0 4 12", "write 4 0 3 0 9 -1 6",
        "write 1 0 3 0 39 -99999 99999", "item 3 0 3 0 4 0 12", "goAll 1 0 3 0 4 0 5", "wouldBe 3 0 3 0 4 0 6",
        "shelf 4 0 3 0 2 0 5", "shelf 2 0 3 0 0 0 5", "taken 3 0 3 0 5", "taken 2 0 3 10 14", "act 5 0 3 0 3 -50 50",
        "act 2 0 3 0 3 -2147483648 2147483647", "trace 4 0 12", "many 3 0 6", "keep 1", "again 1", "TEXT 2"};

    private static final String[] WORDS = {"person", "tramp", "pilgrim", "bishop", "friend", "double", "break", "pass", "shut",
        "if", "or", "and", "not", "day", "tale", "strange", "snow", "number", "0", "3", "12", "0007", "9999", "10000", "<", "=",
        ">", "(", ")", ";", "x", "daybreak", "T", "\t", "?", "\u00e9"};

    private static Random random;
    private static BrokenLoaves real;
    private static Model model;
    private static List<String> log;
    private static boolean wrong;

    public static void main(String[] args) throws Exception {
        int runs = args.length > 0 ? Integer.parseInt(args[0]) : 400;
        List<String[]> calls = new ArrayList<>();
        for (String c : CALLS) {
            String[] parts = c.split(" ");
            for (int i = 0; i < Integer.parseInt(parts[1]); i++) calls.add(parts);
        }
        for (int run = 0; run < runs && !wrong; run++) {
            random = new Random(run);
            real = new BrokenLoaves();
            model = new Model();
            log = new ArrayList<>();
            int people = random.nextInt(7);
            for (int k = 0; k < people; k++) call("person", 1 + random.nextInt(5), random.nextInt(40), random.nextInt(10), random.nextInt(6));
            for (int i = 0; i < 250 && !wrong; i++) {
                String[] c = calls.get(random.nextInt(calls.size()));
                if (c[0].equals("TEXT")) tellRules();
                else call(c[0], arguments(c));
            }
        }
        if (wrong) {
            for (String line : log) System.out.println(line);
            System.exit(1);
        }
    }

    private static int[] arguments(String[] c) {
        int[] a = new int[(c.length - 2) / 2];
        for (int i = 0; i < a.length; i++) {
            int from = Integer.parseInt(c[2 + 2 * i]);
            int to = Integer.parseInt(c[3 + 2 * i]);
            int[] odd = {from - 1, to + 1, from - 2, to + 2, Integer.MIN_VALUE, Integer.MAX_VALUE, -1, 0, 999, 1000, 61, 17, 10};
            a[i] = random.nextInt(25) == 0 ? odd[random.nextInt(odd.length)] : (int) (from + (long) (random.nextDouble() * ((long) to - from + 1)));
        }
        return a;
    }

    private static void call(String name, int... a) throws Exception {
        Class<?>[] types = new Class<?>[a.length];
        Object[] values = new Object[a.length];
        for (int i = 0; i < a.length; i++) {
            types[i] = int.class;
            values[i] = a[i];
        }
        Method one = BrokenLoaves.class.getMethod(name, types);
        Method other = Model.class.getMethod(name, types);
        other.setAccessible(true);
        compare(name + Arrays.toString(a), (int) one.invoke(real, values), (int) other.invoke(model, values));
    }

    private static void compare(String call, int got, int want) {
        log.add(call + " = " + got + (got == want ? "" : "   DUE IS " + want));
        wrong |= got != want;
    }

    private static void tellRules() throws Exception {
        String text = random.nextInt(12) == 0 ? noise() : ruleText();
        log.add("\"" + text + "\"");
        for (int i = 0; i < text.length(); ) {
            int n = Math.min(text.length() - i, 1 + random.nextInt(8));
            long eight = random.nextLong() << 8 * (n - 1) << 8;
            for (int j = 0; j < n; j++) eight |= (text.charAt(i + j) & 255L) << 8 * j;
            compare("feed " + n, real.feed(eight, n), model.feed(eight, n));
            i += n;
        }
        if (random.nextInt(10) == 0) compare("feed 9", real.feed(1, 9), model.feed(1, 9));
        call("many", 5);
        call("rules");
        call("many", 1);
        for (int k = 0; k < model.all.people.size(); k++) call("personOf", k, 8);
    }

    private static String noise() {
        StringBuilder s = new StringBuilder();
        for (int i = random.nextInt(30); i > 0; i--) s.append(WORDS[random.nextInt(WORDS.length)]).append(random.nextBoolean() ? " " : "");
        return s.toString();
    }

    private static String ruleText() {
        StringBuilder s = new StringBuilder();
        for (int i = random.nextInt(random.nextInt(6) == 0 ? 11 : 5); i > 0; i--) {
            s.append(WORDS[random.nextInt(6)]).append(' ');
            if (random.nextInt(4) != 0) s.append("if ").append(condition(random.nextInt(5))).append(' ');
            s.append(WORDS[6 + random.nextInt(3)]).append(random.nextBoolean() ? ";" : " ; ");
        }
        if (random.nextInt(5) == 0 && s.length() > 0) {
            int at = random.nextInt(s.length());
            String odd = WORDS[random.nextInt(WORDS.length)];
            s.replace(at, Math.min(s.length(), at + random.nextInt(4)), random.nextBoolean() ? odd : "");
        }
        return s.toString();
    }

    private static String condition(int depth) {
        int sort = depth == 0 ? 0 : random.nextInt(6);
        if (sort == 1) return "not " + condition(depth - 1);
        if (sort == 2) return "(" + condition(depth - 1) + ")";
        if (sort == 3) return condition(depth - 1) + " and " + condition(depth - 1);
        if (sort == 4) return condition(depth - 1) + " or " + condition(depth - 1);
        String[] near = {"day", "tale", "strange", "snow", "number"};
        String left = random.nextInt(4) == 0 ? "" + random.nextInt(12) : near[random.nextInt(5)];
        String right = random.nextInt(4) == 0 ? near[random.nextInt(5)] : "" + random.nextInt(15);
        String sign = random.nextInt(3) == 0 ? "=" : random.nextBoolean() ? "<" : ">";
        String gap = random.nextBoolean() ? " " : "";
        return left + gap + sign + gap + right;
    }
}

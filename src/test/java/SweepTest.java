import java.lang.reflect.Method;
import java.util.Arrays;

/**
 * Every call with every row of arguments out of a list of edges (too small, just taken, too large, the least and
 * the most int), against the model, from roads that are empty, busy, full and over. No call may throw. One object
 * takes more than the document's 512 calls here: the class has no count of calls, and is to go on as before.
 */
public final class SweepTest {
    private static final int[] MANY = {Integer.MIN_VALUE, -65536, -256, -16, -15, -14, -13, -12, -11, -9, -4, -3, -2, -1, 0, 1, 2, 3, 4, 5,
        6, 7, 8, 9, 10, 11, 14, 15, 16, 17, 20, 21, 31, 32, 39, 40, 41, 60, 61, 63, 64, 200, 255, 256, 998, 999, 1000, 65536, Integer.MAX_VALUE};
    private static final int[] SOME = {Integer.MIN_VALUE, -12, -2, -1, 0, 1, 2, 3, 4, 5, 6, 9, 10, 15, 16, 20, 21, 40, 41, 60, 61, 999, 1000, Integer.MAX_VALUE};
    private static final int[] FEW = {Integer.MIN_VALUE, -1, 0, 1, 2, 5, 6, 9, 10, 15, 16, 60, 61, 999, 1000, Integer.MAX_VALUE};

    private static BrokenLoaves real;
    private static Model model;
    private static int calls;

    public static void main(String[] args) throws Exception {
        for (int road = 0; road < 4; road++) {
            for (Method one : BrokenLoaves.class.getDeclaredMethods()) {
                if (!java.lang.reflect.Modifier.isPublic(one.getModifiers())) continue;
                Method other = Model.class.getMethod(one.getName(), one.getParameterTypes());
                other.setAccessible(true);
                start(road);
                sweep(one, other, new int[0]);
            }
        }
        System.out.println(calls + " calls swept");
        Check.finish();
    }

    private static void sweep(Method one, Method other, int[] chosen) throws Exception {
        int count = one.getParameterCount();
        if (chosen.length == count) {
            compare(one, other, chosen);
            return;
        }
        for (int v : count <= 2 ? MANY : count == 3 ? SOME : FEW) {
            int[] more = Arrays.copyOf(chosen, chosen.length + 1);
            more[chosen.length] = v;
            sweep(one, other, more);
        }
    }

    private static void compare(Method one, Method other, int[] chosen) throws Exception {
        Object[] values = new Object[chosen.length];
        for (int i = 0; i < values.length; i++) {
            if (one.getParameterTypes()[i] == long.class) values[i] = (long) chosen[i];
            else values[i] = chosen[i];
        }
        calls++;
        Check.due(one.getName() + Arrays.toString(chosen), (int) one.invoke(real, values), (int) other.invoke(model, values));
    }

    // the same road for both, by the names of calls

    private static int both(String name, int... a) throws Exception {
        Class<?>[] types = new Class<?>[a.length];
        Object[] values = new Object[a.length];
        for (int i = 0; i < a.length; i++) {
            types[i] = int.class;
            values[i] = a[i];
        }
        Method other = Model.class.getMethod(name, types);
        other.setAccessible(true);
        int answer = (int) BrokenLoaves.class.getMethod(name, types).invoke(real, values);
        Check.due(name + Arrays.toString(a), answer, (int) other.invoke(model, values));
        return answer;
    }

    private static void text(String text) {
        for (char c : text.toCharArray()) Check.due("feed", real.feed(c, 1), model.feed(c, 1));
    }

    /** 0 is empty, 1 busy, 2 full, 3 over. */
    private static void start(int road) throws Exception {
        real = new BrokenLoaves();
        model = new Model();
        if (road == 0) return;
        int people = road == 2 ? 6 : 4;
        for (int k = 0; k < people; k++) both("person", 1 + k % 5, 12 + 2 * k, 9 - k, k % 3);
        both("keep");
        both("gate", 1, 0, 4);
        text("tramp if day > 1 and not strange < 3 pass; friend shut;");
        Check.due("rules", real.rules(), model.rules());
        for (int r = 0; r < people; r++) both("report", r, r % 2, 1, r % 2 == 0 ? 30 : 9);
        both("day");
        both("lot");
        both("prove", road == 2 ? 4 : 2);
        for (int s = 0; s < (road == 2 ? 4 : 3); s++) both("sheet", s, road == 3 ? 0 : s, 4 + 12 * s);
        for (int i = 0; i < 4; i++) both("write", 0, i, i);
        both("shelf", 0, 0, 2);
        both("shelf", 1, 1, 0);
        both("shelf", 3, 0, 3);
        both("act", 0, 3, 5);
        if (road == 2) text("pilgrim ");
        if (road == 3) both("ends", 2);
    }
}

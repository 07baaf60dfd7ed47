import java.io.File;
import java.lang.management.ManagementFactory;
import java.lang.reflect.Constructor;
import java.lang.reflect.Field;
import java.lang.reflect.Method;
import java.lang.reflect.Modifier;
import java.nio.file.Files;
import java.util.ArrayList;
import java.util.Arrays;
import java.util.List;
import java.util.TreeSet;
import java.util.regex.Matcher;
import java.util.regex.Pattern;

/** The face of the document, and what of LANGUAGE.md a program can see. */
public final class LanguageTest {
    private static final String FACE = "person 4,personOf 2,change 3,remake 2,weather 2,gate 3,gateOf 2,house 2,ends 1,anew 0,state 1,"
        + "feed 2,rules 0,day 0,on 1,when 1,taleFor 1,gateFor 1,bakery 1,winter 1,tables 1,rounds 2,best 1,ith 2,ways 1,feast 2,"
        + "bars 2,game 1,play 1,report 4,forget 0,tales 1,liar 0,seed 1,lot 0,times 2,prove 1,row 2,alterRow 3,judge 0,sheet 3,"
        + "write 3,item 3,goAll 3,wouldBe 3,shelf 3,taken 2,act 3,trace 1,many 1,keep 0,again 0";

    public static void main(String[] args) throws Exception {
        theFace();
        theClasses();
        theSource();
        noCallMakesObjects();
        Check.finish();
    }

    private static void theFace() {
        TreeSet<String> due = new TreeSet<>(Arrays.asList(FACE.split(",")));
        TreeSet<String> is = new TreeSet<>();
        for (Method m : BrokenLoaves.class.getDeclaredMethods()) {
            if (Modifier.isPublic(m.getModifiers())) {
                is.add(m.getName() + " " + m.getParameterCount());
                Check.due(m + " answers an int", m.getReturnType() == int.class ? 1 : 0, 1);
                Check.due(m + " is of an object", Modifier.isStatic(m.getModifiers()) ? 1 : 0, 0);
            } else {
                Check.due(m + " is private", Modifier.isPrivate(m.getModifiers()) ? 1 : 0, 1);
            }
        }
        Check.same("the face", is.toString(), due.toString());
        StringBuilder constants = new StringBuilder();
        for (Field f : BrokenLoaves.class.getDeclaredFields()) {
            if (Modifier.isPublic(f.getModifiers())) constants.append(f.getName()).append(' ');
            else Check.due(f + " is private", Modifier.isPrivate(f.getModifiers()) ? 1 : 0, 1);
        }
        Check.same("the constants", constants.toString(), "BAD FULL NONE STATE ");
        Constructor<?>[] made = BrokenLoaves.class.getDeclaredConstructors();
        Check.due("constructors", made.length, 1);
        Check.due("public and final", BrokenLoaves.class.getModifiers(), Modifier.PUBLIC | Modifier.FINAL);
    }

    private static void theClasses() {
        TreeSet<String> face = new TreeSet<>();
        for (String m : FACE.split(",")) face.add(m.split(" ")[0]);
        List<Class<?>> all = new ArrayList<>(Arrays.asList(BrokenLoaves.class.getDeclaredClasses()));
        Check.due("at most twelve classes", all.size() < 12 ? 1 : 0, 1);
        for (Class<?> c : all) {
            Check.due(c + " is static", Modifier.isStatic(c.getModifiers()) ? 1 : 0, 1);
            for (Method m : c.getDeclaredMethods()) Check.due(m + " has a name of its own", face.contains(m.getName()) ? 1 : 0, 0);
        }
        all.add(BrokenLoaves.class);
        for (Class<?> c : all) {
            int fields = 0;
            for (Field f : c.getDeclaredFields()) {
                if (!Modifier.isStatic(f.getModifiers())) fields++;
                else Check.due(f + " is final", Modifier.isFinal(f.getModifiers()) ? 1 : 0, 1);
            }
            Check.due(c + " has some twenty fields, not " + fields, fields <= 20 ? 1 : 0, 1);
            for (Method m : c.getDeclaredMethods()) Check.due(m + " has at most seven parameters", m.getParameterCount() <= 7 ? 1 : 0, 1);
        }
    }

    private static void theSource() throws Exception {
        File file = new File(System.getProperty("project.root", "."), "src/main/java/BrokenLoaves.java");
        String source = new String(Files.readAllBytes(file.toPath()), "UTF-8");
        String code = source.replaceAll("(?s)/\\*.*?\\*/", "").replaceAll("//[^\n]*", "").replaceAll("\"[^\"\n]*\"", "\"\"");
        String[] words = {"throw", "throws", "try", "catch", "synchronized", "assert", "package", "protected", "Object", "lambda",
            "Override", "hashCode", "toString", "Exception", "Random", "Thread", "double", "float"};
        for (String w : words) Check.due("the word " + w, Pattern.compile("\\b" + w + "\\b").matcher(code).find() ? 1 : 0, 0);
        Check.due("no lambda", code.contains("->") || code.contains("::") ? 1 : 0, 0);
        Matcher imports = Pattern.compile("import ([^;]*);").matcher(code);
        while (imports.find()) Check.same("import", imports.group(1), "java.util.Arrays");
        for (char c : source.toCharArray()) Check.due("sign", c < 128 ? 1 : 0, 1);
        Matcher loops = Pattern.compile("for \\(;|while \\(true").matcher(code);
        Check.due("a loop without a bound", loops.find() ? 1 : 0, 0);
        int from = 0;
        String[] lines = source.split("\n");
        for (int i = 0; i < lines.length; i++) {
            if (lines[i].matches(" {4}( {4})?[^ ].*\\) \\{")) from = i;
            if (lines[i].matches(" {4}( {4})?\\}")) Check.due("a short method at line " + from, i - from <= 60 ? 1 : 0, 1);
        }
    }

    /** The dearest calls, over and over: what they make is counted by the machine. */
    private static void noCallMakesObjects() {
        com.sun.management.ThreadMXBean counter = (com.sun.management.ThreadMXBean) ManagementFactory.getThreadMXBean();
        long thread = Thread.currentThread().getId();
        BrokenLoaves x = Check.five();
        int sum = useAll(x, 50);
        long before = counter.getThreadAllocatedBytes(thread);
        sum += useAll(x, 200);
        long made = counter.getThreadAllocatedBytes(thread) - before;
        Check.due("bytes made by some 8000 calls (" + sum + "): " + made + ", at most 4096", made <= 4096 ? 1 : 0, 1);
    }

    private static int useAll(BrokenLoaves x, int times) {
        int sum = 0;
        for (int t = 0; t < times; t++) {
            x.anew();
            x.feed(0x207069727420L, 6);
            x.feed(0x3b737361702070L, 7);
            sum += x.rules() + x.keep() + x.lot() + x.again() + x.day() + x.on(16) + x.when(2) + x.taleFor(1) + x.gateFor(1);
            sum += x.bakery(9) + x.winter(0) + x.tables(-1) + x.rounds(3, 1) + x.best(2) + x.ith(2, 1) + x.ways(2) + x.feast(2, 3);
            sum += x.bars(2, 3) + x.game(2) + x.play(2) + x.report(4, 0, 3, 9) + x.tales(1) + x.liar() + x.forget() + x.times(3, 9);
            sum += x.prove(2) + x.row(0, 0) + x.judge() + x.sheet(0, t % 5, 9) + x.write(0, 1, 1) + x.item(0, 0, 1);
            sum += x.goAll(0, 0, 2) + x.wouldBe(0, 0, 2) + x.shelf(0, 0, 2) + x.taken(0, 4) + x.act(0, 3, 4) + x.trace(1);
            sum += x.many(6) + x.remake(2, 1 + t % 5) + x.shelf(1, 1, 0) + x.taken(1, 10) + x.personOf(2, 8) + x.state(4);
        }
        return sum;
    }
}

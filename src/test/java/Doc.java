import java.io.File;
import java.nio.file.Files;
import java.util.ArrayList;
import java.util.LinkedHashSet;
import java.util.List;
import java.util.Set;
import java.util.regex.Matcher;
import java.util.regex.Pattern;

/** The document itself, so that a boundary test quotes words that stand there, and no named refusal goes untested. */
final class Doc {
    static final int PROMISES = 53;
    private static final Pattern REFUSAL = Pattern.compile("\\b(BAD|FULL|NONE|STATE)\\b|-(9|1[1-5])\\b");
    private static final Pattern CALL = Pattern.compile("public int (\\w+)(\\([^)]*\\));");
    private static final String TEXT = read();

    private Doc() {
    }

    private static String read() {
        File file = new File(System.getProperty("project.root", "."), "../shared/DOC.md");
        try {
            return new String(Files.readAllBytes(file.toPath()), "UTF-8").replaceAll("\\s+", " ");
        } catch (java.io.IOException e) {
            System.out.println("no document at " + file + ": quotes are not looked up");
            return "";
        }
    }

    static boolean isThere() {
        return !TEXT.isEmpty();
    }

    /** The section of a promise; what stands ahead of all promises and behind them, for 0. */
    static String section(int promise) {
        String first = "## Promise 1:";
        String last = "## Not promised";
        if (promise == 0) return TEXT.substring(0, TEXT.indexOf(first)) + TEXT.substring(TEXT.indexOf(last));
        String from = "## Promise " + promise + ":";
        String to = promise == PROMISES ? last : "## Promise " + (promise + 1) + ":";
        return TEXT.substring(TEXT.indexOf(from), TEXT.indexOf(to));
    }

    static boolean says(int promise, String words) {
        return !isThere() || section(promise).contains(words) || section(0).contains(words);
    }

    /** The calls of the face, each as name(its arguments), in the order of their promises. */
    static List<String> face() {
        List<String> calls = new ArrayList<>();
        Matcher m = CALL.matcher(TEXT);
        while (m.find()) calls.add(m.group(1) + m.group(2).replaceAll("(int|long) ", ""));
        return calls;
    }

    /** The refusals that the section of a promise names, as numbers, in its order. */
    static Set<Integer> refusals(int promise) {
        Set<Integer> named = new LinkedHashSet<>();
        if (!isThere()) return named;
        Matcher m = REFUSAL.matcher(section(promise));
        while (m.find()) named.add(numberOf(m.group()));
        return named;
    }

    static int numberOf(String refusal) {
        switch (refusal) {
            case "BAD": return BrokenLoaves.BAD;
            case "FULL": return BrokenLoaves.FULL;
            case "NONE": return BrokenLoaves.NONE;
            case "STATE": return BrokenLoaves.STATE;
            default: return Integer.parseInt(refusal);
        }
    }
}

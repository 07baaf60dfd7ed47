import java.io.File;
import java.io.IOException;
import java.nio.file.Files;
import java.nio.file.Path;
import java.util.ArrayList;
import java.util.Arrays;
import java.util.List;
import java.util.Map;
import java.util.TreeSet;
import java.util.regex.Matcher;
import java.util.regex.Pattern;
import java.util.stream.Collectors;
import java.util.stream.Stream;

/**
 * What README.md tells is so: its pieces of code compile and answer as it says, its commands run in a copy of
 * the project and print what it says, its tables have the document's calls and their refusals, in their order.
 */
public final class ReadmeTest {
    /** A line of a piece: a call, the number that it answers, and words for who reads it. */
    private static final Pattern ANSWERED = Pattern.compile("(int \\w+ = )?(x\\.(\\w+)\\(.*\\)); +// (-?\\d+): .+");
    private static final String MADE = "BrokenLoaves x = new BrokenLoaves();";
    private static final Pattern REFUSAL = Pattern.compile("\\b(BAD|FULL|NONE|STATE)\\b|-\\d+");
    private static final int FIRST_CALL = 2;

    private static File root;
    private static Readme readme;
    private static final TreeSet<String> shown = new TreeSet<>();

    public static void main(String[] args) throws Exception {
        root = new File(System.getProperty("project.root", ".")).getCanonicalFile();
        readme = new Readme(new File(root, "README.md"));
        theCalls();
        theNames();
        theTests();
        Path place = Files.createTempDirectory("readme");
        try {
            thePieces(place.resolve("pieces"));
            theCommands(place.resolve("copy"));
        } finally {
            remove(place);
        }
        Check.finish();
    }

    // ---- tables

    private static void theCalls() {
        if (!Doc.isThere()) return;
        List<String> face = Doc.face();
        Map<String, String> calls = readme.calls();
        Check.due("calls of the document", face.size(), Doc.PROMISES - 1);
        Check.same("README's calls", String.join("\n", calls.keySet()), String.join("\n", face));
        for (int i = 0; i < face.size(); i++) {
            List<Integer> due = new ArrayList<>(Doc.refusals(i + FIRST_CALL));
            // Terms tells it of the body, not the section of act()
            if (face.get(i).startsWith("act(")) due.add(-15);
            Check.same("README's refusals of " + face.get(i), numbers(calls.getOrDefault(face.get(i), "")), due.toString());
        }
    }

    private static String numbers(String cell) {
        List<Integer> found = new ArrayList<>();
        Matcher m = REFUSAL.matcher(cell);
        while (m.find()) found.add(Doc.numberOf(m.group()));
        return found.toString();
    }

    private static void theNames() throws Exception {
        Map<String, Integer> named = readme.named();
        Check.same("README's names of refusals", named.keySet().toString(), "[BAD, FULL, NONE, STATE]");
        for (Map.Entry<String, Integer> e : named.entrySet()) {
            Check.due("README's " + e.getKey(), e.getValue(), BrokenLoaves.class.getField(e.getKey()).getInt(null));
        }
    }

    private static void theTests() {
        for (String file : new File(root, "src/test/java").list()) {
            if (!file.endsWith("Test.java")) continue;
            String name = file.substring(0, file.length() - ".java".length());
            Check.due("README tells of " + name, readme.text.contains("`" + name + "`") ? 1 : 0, 1);
        }
        Check.due(".ci/run can be run", new File(root, ".ci/run").canExecute() ? 1 : 0, 1);
    }

    // ---- pieces of code

    private static void thePieces(Path place) throws Exception {
        Files.createDirectories(place);
        StringBuilder source = new StringBuilder("final class Pieces {\n");
        StringBuilder all = new StringBuilder();
        int count = 0;
        for (Readme.Block b : readme.blocks) {
            if (!b.isPiece()) continue;
            count++;
            // as it is shown, so that it is seen to compile, and then with each answer looked at
            source.append("static void shown").append(count).append("() {\n").append(b.text).append("}\n");
            source.append("static void asked").append(count).append("() {\n").append(asked(b.text)).append("}\n");
            all.append("asked").append(count).append("();\n");
        }
        source.append("static int due(String call, int got, int want) {\nCheck.due(\"README: \" + call, got, want);\nreturn got;\n}\n");
        source.append("public static void main(String[] args) {\n").append(all).append("Check.finish();\n}\n}\n");
        Files.write(place.resolve("Pieces.java"), source.toString().getBytes("UTF-8"));
        String path = System.getProperty("java.class.path");
        run("pieces of README", place, "", "javac", "-cp", path, "-d", ".", "Pieces.java");
        run("pieces of README", place, "", "java", "-cp", "." + File.pathSeparator + path, "Pieces");
        TreeSet<String> calls = new TreeSet<>();
        for (String call : readme.calls().keySet()) calls.add(call.substring(0, call.indexOf('(')));
        Check.same("calls that README shows in use", shown.toString(), calls.toString());
    }

    private static String asked(String piece) {
        StringBuilder s = new StringBuilder();
        for (String line : piece.split("\n")) {
            Matcher m = ANSWERED.matcher(line);
            if (m.matches()) {
                shown.add(m.group(3));
                s.append(m.group(1) == null ? "" : m.group(1));
                s.append("due(\"").append(m.group(2)).append("\", ").append(m.group(2)).append(", ").append(m.group(4)).append(");\n");
            } else {
                Check.same("a line of README that tells no answer", line, MADE);
                s.append(line).append('\n');
            }
        }
        return s.toString();
    }

    // ---- commands

    private static void theCommands(Path copy) throws Exception {
        Path main = copy.resolve("main");
        copyAll(new File(root, "src").toPath().toRealPath(), main.resolve("src"));
        copyAll(new File(root, "../shared").toPath().toRealPath(), copy.resolve("shared"));
        int ran = 0;
        for (int i = 0; i < readme.blocks.size(); i++) {
            Readme.Block b = readme.blocks.get(i);
            if (!b.program().isEmpty()) Files.write(main.resolve(b.program() + ".java"), b.text.getBytes("UTF-8"));
            // .ci/run runs this test: it is not run again within it
            if (!b.language.equals("sh") || b.text.equals(".ci/run\n")) continue;
            run("README's command " + b.text, main, readme.printedBehind(i), "sh", "-e", "-c", b.text);
            ran++;
        }
        Check.due("README's commands but .ci/run", ran, 3);
    }

    private static void copyAll(Path from, Path to) throws IOException {
        List<Path> found;
        try (Stream<Path> walk = Files.walk(from)) {
            found = walk.collect(Collectors.toList());
        }
        for (Path p : found) {
            Path its = to.resolve(from.relativize(p).toString());
            if (Files.isDirectory(p)) Files.createDirectories(its);
            else Files.write(its, Files.readAllBytes(p));
        }
    }

    /** The command ends with 0 and, if that is told, prints so. */
    private static void run(String what, Path place, String prints, String... command) throws Exception {
        File out = Files.createTempFile(place, "out", ".txt").toFile();
        Process p = new ProcessBuilder(command).directory(place.toFile()).redirectErrorStream(true).redirectOutput(out).start();
        int end = p.waitFor();
        String printed = new String(Files.readAllBytes(out.toPath()), "UTF-8");
        if (end != 0) System.out.println(Arrays.toString(command) + " printed\n" + printed);
        Check.due(what + ": its end", end, 0);
        if (!prints.isEmpty()) Check.same(what + ": what it prints", printed, prints);
    }

    private static void remove(Path place) throws IOException {
        List<Path> found;
        try (Stream<Path> walk = Files.walk(place)) {
            found = walk.collect(Collectors.toList());
        }
        for (int i = found.size() - 1; i >= 0; i--) Files.delete(found.get(i));
    }
}

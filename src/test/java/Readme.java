import java.io.File;
import java.io.IOException;
import java.nio.file.Files;
import java.util.ArrayList;
import java.util.LinkedHashMap;
import java.util.List;
import java.util.Map;
import java.util.regex.Matcher;
import java.util.regex.Pattern;

/** README.md in its parts: pieces of code, commands, what they print, and the rows of its tables. */
final class Readme {
    private static final Pattern BLOCK = Pattern.compile("^```(\\w+)\n(.*?)^```$", Pattern.DOTALL | Pattern.MULTILINE);
    private static final Pattern PROGRAM = Pattern.compile("public final class (\\w+)");
    private static final Pattern CALL_ROW = Pattern.compile("^\\| `(\\w+\\([^)]*\\))` \\|(.*)\\|(.*)\\|$", Pattern.MULTILINE);
    private static final Pattern NAME_ROW = Pattern.compile("^\\| (-\\d+) \\| `BrokenLoaves\\.(\\w+)` \\|", Pattern.MULTILINE);

    /** What stands between two fences, and the language that is told there. */
    static final class Block {
        final String language;
        final String text;

        Block(String language, String text) {
            this.language = language;
            this.text = text;
        }

        /** The name of the class, if this is a whole program, else nothing. */
        String program() {
            Matcher m = PROGRAM.matcher(text);
            return language.equals("java") && m.find() ? m.group(1) : "";
        }

        boolean isPiece() {
            return language.equals("java") && program().isEmpty();
        }
    }

    final String text;
    final List<Block> blocks = new ArrayList<>();

    Readme(File file) throws IOException {
        text = new String(Files.readAllBytes(file.toPath()), "UTF-8");
        Matcher m = BLOCK.matcher(text);
        while (m.find()) blocks.add(new Block(m.group(1), m.group(2)));
    }

    /** Each call that a table has, as it is written there, with what refuses it. */
    Map<String, String> calls() {
        Map<String, String> found = new LinkedHashMap<>();
        Matcher m = CALL_ROW.matcher(text);
        while (m.find()) Check.due(m.group(1) + " stands in one row", found.put(m.group(1), m.group(3).trim()) == null ? 1 : 0, 1);
        return found;
    }

    /** The numbers of the refusals that have names. */
    Map<String, Integer> named() {
        Map<String, Integer> found = new LinkedHashMap<>();
        Matcher m = NAME_ROW.matcher(text);
        while (m.find()) found.put(m.group(2), Integer.parseInt(m.group(1)));
        return found;
    }

    /** What the block behind block i says is printed, or nothing, if that is no such block. */
    String printedBehind(int i) {
        boolean told = i + 1 < blocks.size() && blocks.get(i + 1).language.equals("text");
        return told ? blocks.get(i + 1).text : "";
    }
}

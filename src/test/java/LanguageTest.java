import java.io.IOException;
import java.nio.file.Files;
import java.nio.file.Path;
import java.util.List;
import java.util.Set;
import java.util.regex.Matcher;
import java.util.regex.Pattern;

/** Some rules of LANGUAGE.md that can be seen in the program's text; it is run in the project's folder. */
public final class LanguageTest {
    private static final Set<String> FACE = Set.of("feed", "end", "load", "restart", "put", "get", "safe", "scan", "watch", "watched", "frame", "station",
        "byteAt", "count");
    private static final Pattern METHOD = Pattern.compile("^ {4}(?: {4})?((?:public |private |static |final )*)[\\w\\[\\]]+ (\\w+)\\(([^)]*)\\) \\{$");

    public static void main(String[] args) throws IOException {
        List<String> lines = Files.readAllLines(Path.of("src/main/java/PlantKeeper.java"));
        int classes = 0;
        int imports = 0;
        for (int i = 0; i < lines.size(); i++) {
            String line = lines.get(i).replaceAll("/?\\*\\*.*|^ *\\* .*|//.*", "").replaceAll("\"[^\"]*\"", "\"\"");
            classes += line.matches(".*\\bclass \\w+ \\{") ? 1 : 0;
            imports += line.startsWith("import ") ? 1 : 0;
            boolean forbidden = line.matches(".*\\b(throw|try|catch|synchronized|assert|record|native|volatile|protected|System\\.out|Object|Thread)\\b.*")
                || line.contains("->") || line.contains("::") || line.matches(".*\"\" \\+.*|.*\\+ \"\".*");
            Bench.due("line " + (i + 1) + ": " + line, forbidden ? 1 : 0, 0);
            boolean endless = line.matches(".*\\bwhile \\(true\\).*|.*\\bfor \\(;.*;\\).*");
            Bench.due("line " + (i + 1) + " has an end: " + line, endless ? 1 : 0, 0);
            Matcher method = METHOD.matcher(lines.get(i));
            if (method.matches()) {
                judge(lines, i, method);
            }
        }
        Bench.due("classes", classes <= 12 ? 1 : 0, 1);
        Bench.due("imports", imports, 1);
        Bench.finish("LanguageTest");
    }

    private static void judge(List<String> lines, int from, Matcher method) {
        String name = method.group(2);
        String close = lines.get(from).startsWith("        ") ? "        }" : "    }";
        int length = 1;
        while (!lines.get(from + length).equals(close)) {
            length++;
        }
        Bench.due(name + " is short", length <= 60 ? 1 : 0, 1);
        int parameters = method.group(3).isEmpty() ? 0 : method.group(3).split(",").length;
        Bench.due(name + " has few parameters", parameters <= 7 ? 1 : 0, 1);
        boolean isPublic = method.group(1).contains("public");
        Bench.due(name + " is of the face or has another name", FACE.contains(name) == isPublic ? 1 : 0, 1);
    }
}

import java.io.ByteArrayOutputStream;
import java.io.File;
import java.io.IOException;
import java.io.PrintStream;
import java.lang.reflect.Method;
import java.lang.reflect.Modifier;
import java.nio.file.Files;
import java.nio.file.Path;

/** README.md has the example as it is, with what it prints, and every call and test; it is run in the project's folder. */
public final class ReadmeTest {
    public static void main(String[] args) throws IOException {
        String readme = Files.readString(Path.of("README.md"));
        String example = Files.readString(Path.of("src/test/java/Example.java"));
        Bench.due("the example", readme.contains("```java\n" + example + "```\n") ? 1 : 0, 1);
        Bench.due("what it prints", readme.contains("```text\n" + printed() + "```\n") ? 1 : 0, 1);
        for (Method method : PlantKeeper.class.getDeclaredMethods()) {
            boolean face = Modifier.isPublic(method.getModifiers());
            Bench.due("the call " + method.getName(), !face || readme.contains("| `" + method.getName() + "(") ? 1 : 0, 1);
        }
        for (String file : new File("src/test/java").list()) {
            Bench.due(file, readme.contains("`" + file.replace(".java", "") + "`") || readme.contains(file) ? 1 : 0, 1);
        }
        Bench.finish("ReadmeTest");
    }

    private static String printed() {
        PrintStream before = System.out;
        ByteArrayOutputStream bytes = new ByteArrayOutputStream();
        System.setOut(new PrintStream(bytes, true));
        Example.main(new String[0]);
        System.setOut(before);
        return bytes.toString().replace(System.lineSeparator(), "\n");
    }
}

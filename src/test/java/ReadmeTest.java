import java.io.IOException;
import java.net.URL;
import java.net.URLClassLoader;
import java.nio.file.Files;
import java.nio.file.Path;
import java.util.ArrayList;
import java.util.List;
import java.util.regex.Matcher;
import java.util.regex.Pattern;
import java.util.stream.Stream;
import javax.tools.ToolProvider;

/** README.md holds: its code runs and answers as it says, and it names every call and every test. */
public final class ReadmeTest {
    private static final Pattern CODE = Pattern.compile("```java\n(.*?)```", Pattern.DOTALL);
    private static final Pattern ASKED = Pattern.compile("(?:int (\\w+) = )?(.*?);\\s*// (\\S+)");
    private static final Pattern CALL = Pattern.compile("public (?:int|long|boolean) (\\w+)\\(([^)]*)\\) \\{");

    public static void main(String[] args) throws Exception {
        String readme = Files.readString(Path.of("README.md"));
        codeAnswersAsItSays(readme);
        everyCallIsNamed(readme);
        everyTestIsNamed(readme);
        Check.finish("ReadmeTest");
    }

    /** The first piece of code is a method, the second one rows, each with its answer behind it. */
    private static void codeAnswersAsItSays(String readme) throws Exception {
        Matcher code = CODE.matcher(readme);
        Check.due("a method", code.find(), true);
        String method = code.group(1);
        Check.due("rows", code.find(), true);
        List<String> asked = new ArrayList<>();
        List<String> want = new ArrayList<>();
        StringBuilder rows = new StringBuilder();
        for (String line : code.group(1).split("\n")) {
            Matcher row = ASKED.matcher(line);
            if (row.matches()) {
                String name = row.group(1);
                rows.append(name == null ? "" : "int " + name + " = " + row.group(2) + ";\n");
                rows.append("got.add(String.valueOf(").append(name == null ? row.group(2) : name).append("));\n");
                asked.add(row.group(2));
                want.add(row.group(3));
            } else {
                rows.append(line).append('\n');
            }
        }
        Object[] got = run(method, rows.toString());
        Check.due("rows with answers", got.length, want.size());
        Check.due("there are some", got.length > 10, true);
        for (int i = 0; i < got.length; i++) {
            Check.due("README.md: " + asked.get(i) + " answers " + got[i] + ": as it says", got[i].equals(want.get(i)), true);
        }
    }

    private static Object[] run(String method, String rows) throws Exception {
        Path folder = Files.createTempDirectory("readme");
        Path file = folder.resolve("Readme.java");
        Files.writeString(file, "public final class Readme {\n" + method + "public static Object[] run() {\n"
            + "java.util.List<String> got = new java.util.ArrayList<>();\n" + rows + "return got.toArray();\n}\n}\n");
        String path = System.getProperty("java.class.path");
        int ended = ToolProvider.getSystemJavaCompiler().run(null, null, null, "-cp", path, "-d", folder.toString(), file.toString());
        Check.due("the code compiles", ended, 0);
        try (URLClassLoader loader = new URLClassLoader(new URL[] {folder.toUri().toURL()})) {
            return ended == 0 ? (Object[]) loader.loadClass("Readme").getMethod("run").invoke(null) : new Object[0];
        } finally {
            delete(folder);
        }
    }

    private static void delete(Path folder) throws IOException {
        try (Stream<Path> files = Files.list(folder)) {
            for (Path file : files.toList()) {
                Files.delete(file);
            }
        }
        Files.delete(folder);
    }

    private static void everyCallIsNamed(String readme) throws IOException {
        Matcher call = CALL.matcher(Files.readString(Path.of("src/main/java/KeptCompany.java")));
        int calls = 0;
        while (call.find()) {
            String named = "`" + call.group(1) + "(" + call.group(2).replaceAll("(int|boolean) ", "") + ")`";
            Check.due("README.md names " + named, readme.contains(named), true);
            calls++;
        }
        Check.due("calls of the face", calls, 36);
    }

    private static void everyTestIsNamed(String readme) throws IOException {
        try (Stream<Path> files = Files.list(Path.of("src/test/java"))) {
            for (Path file : files.toList()) {
                String name = file.getFileName().toString().replace(".java", "");
                Check.due("README.md names " + name, !name.endsWith("Test") || readme.contains("| `" + name + "` |"), true);
            }
        }
    }
}

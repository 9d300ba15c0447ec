import java.io.IOException;
import java.net.URL;
import java.net.URLClassLoader;
import java.nio.file.DirectoryStream;
import java.nio.file.Files;
import java.nio.file.Path;
import java.util.ArrayList;
import java.util.List;
import java.util.regex.Matcher;
import java.util.regex.Pattern;
import javax.tools.ToolProvider;

/** What README.md says: its example answers as it is written there, and it names each test; run it from the project's folder. */
public final class ReadmeTest {
    private static final Pattern ANSWERED = Pattern.compile("(x\\.\\w+\\(.*\\)); +// (-?\\d+|true|false)\\b.*");
    private static int wrong = 0;

    private static void wrong(String what) {
        wrong++;
        System.out.println("ReadmeTest: " + what);
    }

    /** The lines between the marks of a sort of text. */
    private static List<String> block(List<String> page, String sort) {
        List<String> block = new ArrayList<>();
        boolean in = false;
        for (String line : page) {
            if (line.equals("```" + sort)) {
                in = true;
            } else if (line.equals("```")) {
                in = false;
            } else if (in) {
                block.add(line);
            }
        }
        return block;
    }

    private static String program(List<String> example) {
        StringBuilder s = new StringBuilder("public final class Example {\n    public static String run() {\n        StringBuilder told = new StringBuilder();\n");
        int answers = 0;
        for (String line : example) {
            Matcher m = ANSWERED.matcher(line);
            if (m.matches()) {
                answers++;
                s.append("told.append(").append(m.group(1)).append(").append('\\n');\n");
            } else {
                s.append(line).append('\n');
            }
        }
        if (answers == 0) {
            wrong("the example tells no answer");
        }
        return s.append("        return told.toString();\n    }\n}\n").toString();
    }

    private static String answers(List<String> example) {
        StringBuilder s = new StringBuilder();
        for (String line : example) {
            Matcher m = ANSWERED.matcher(line);
            if (m.matches()) {
                s.append(m.group(2)).append('\n');
            } else if (line.contains("//")) {
                wrong("the example's line isn't understood: " + line);
            }
        }
        return s.toString();
    }

    private static void example(List<String> example) throws IOException, ReflectiveOperationException {
        Path folder = Files.createTempDirectory("readme");
        Path source = folder.resolve("Example.java");
        Files.writeString(source, program(example));
        int code = ToolProvider.getSystemJavaCompiler().run(null, null, null, "-cp", System.getProperty("java.class.path"), "-d", folder.toString(), source.toString());
        if (code != 0) {
            wrong("the example does not compile");
        } else {
            try (URLClassLoader loader = new URLClassLoader(new URL[] {folder.toUri().toURL()})) {
                String got = (String) loader.loadClass("Example").getMethod("run").invoke(null);
                if (!got.equals(answers(example))) {
                    wrong("the example answers\n" + got + "but due is\n" + answers(example));
                }
            }
        }
        Files.deleteIfExists(folder.resolve("Example.class"));
        Files.delete(source);
        Files.delete(folder);
    }

    private static void tests(String page) throws IOException {
        try (DirectoryStream<Path> tests = Files.newDirectoryStream(Path.of("tests"), "*Test.java")) {
            for (Path test : tests) {
                String name = test.getFileName().toString().replace(".java", "");
                if (!Pattern.compile("(?m)^- .*`" + name + "`").matcher(page).find()) {
                    wrong("the page does not tell of " + name);
                }
            }
        }
        Matcher named = Pattern.compile("(\\w+Test)\\b").matcher(page);
        while (named.find()) {
            if (!Files.exists(Path.of("tests", named.group() + ".java"))) {
                wrong("the page tells of " + named.group() + ", which there isn't");
            }
        }
    }

    public static void main(String[] args) throws IOException, ReflectiveOperationException {
        Path readme = Path.of("README.md");
        example(block(Files.readAllLines(readme), "java"));
        tests(Files.readString(readme));
        System.out.println(wrong == 0 ? "ReadmeTest: all as due" : "ReadmeTest: " + wrong + " wrong");
        if (wrong != 0) {
            System.exit(1);
        }
    }
}

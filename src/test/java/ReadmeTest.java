import java.io.IOException;
import java.nio.charset.StandardCharsets;
import java.nio.file.Files;
import java.nio.file.Path;
import java.util.ArrayList;
import java.util.List;
import java.util.regex.Matcher;
import java.util.regex.Pattern;
import java.util.stream.Stream;
import javax.tools.JavaCompiler;
import javax.tools.ToolProvider;

/** README.md is so as it is written: its example is compiled and run, and its tables leave nothing out. */
public final class ReadmeTest {
    private static final Pattern CALL = Pattern.compile("^(x\\.(\\w+)\\(.*\\)); +// (true|false|-?\\d+)(:.*)?$");
    private static final Pattern NAMED_TEXT = Pattern.compile("^// an? (ISLAND|BOOK|SENTENCE): \"(.*)\"$");

    private static List<String> block(String page, String language) {
        Matcher m = Pattern.compile("(?s)\n```" + language + "\n(.*?)```\n").matcher(page);
        Due.yes("README.md has a block of " + language, m.find());
        return List.of(m.group(1).split("\n"));
    }

    /** A class whose main part is the example, with each answer compared. */
    private static String program(List<String> example) {
        StringBuilder code = new StringBuilder("public final class ReadmeExample implements Runnable {\n");
        code.append("public void run() {\n");
        int calls = 0;
        for (String line : example) {
            Matcher m = CALL.matcher(line);
            if (!m.matches()) {
                boolean isOther = line.isEmpty() || line.startsWith("//") || line.startsWith("ShadowHeirs x = ");
                Due.yes("a call of README.md has its answer behind it: " + line, isOther);
                code.append(line).append('\n');
                continue;
            }
            calls++;
            boolean isTruth = m.group(3).startsWith("t") || m.group(3).startsWith("f");
            String got = isTruth ? m.group(1) + " ? 1 : 0" : m.group(1);
            String want = m.group(3).replace("true", "1").replace("false", "0");
            code.append("if ((").append(got).append(") != ").append(want).append(") { throw new IllegalStateException(\"")
                .append(m.group(1)).append("\"); }\n");
        }
        Due.yes("README.md has calls", calls > 20 && calls <= 512);
        return code.append("}\n}\n").toString();
    }

    private static void exampleHolds(List<String> example) throws Exception {
        Path dir = Files.createTempDirectory("readme");
        Path file = dir.resolve("ReadmeExample.java");
        Files.writeString(file, program(example));
        JavaCompiler javac = ToolProvider.getSystemJavaCompiler();
        String path = System.getProperty("java.class.path");
        Due.same("javac", javac.run(null, null, null, "--release", "17", "-cp", path, "-d", dir.toString(), file.toString()), 0);
        String wrong = "";
        try (java.net.URLClassLoader loader = new java.net.URLClassLoader(new java.net.URL[] {dir.toUri().toURL()})) {
            Object made = loader.loadClass("ReadmeExample").getDeclaredConstructor().newInstance();
            try {
                ((Runnable) made).run();
            } catch (IllegalStateException e) {
                wrong = e.getMessage();
            }
        }
        Due.same("the call of README.md that does not answer so", wrong, "");
        Files.deleteIfExists(dir.resolve("ReadmeExample.class"));
        Files.deleteIfExists(file);
        Files.deleteIfExists(dir);
    }

    /** The numbers that are fed behind a text told in the example are that text. */
    private static void numbersAreTheTexts(List<String> example) {
        int texts = 0;
        for (int i = 0; i < example.size(); i++) {
            Matcher m = NAMED_TEXT.matcher(example.get(i));
            if (!m.matches()) {
                continue;
            }
            texts++;
            StringBuilder fed = new StringBuilder();
            for (int k = i + 1; k < example.size() && example.get(k).startsWith("x.feed("); k++) {
                for (String number : example.get(k).replaceAll("^x\\.feed\\((.*?)\\);.*", "$1").split(", ")) {
                    for (int shift = 24; shift >= 0; shift -= 8) {
                        fed.append((char) (Integer.parseInt(number) >>> shift & 255));
                    }
                }
            }
            Due.same("the numbers of README.md", fed.toString().replaceAll("\0+$", ""), m.group(2));
        }
        Due.same("texts in README.md", texts, 3);
    }

    private static void slipIsAsWritten() {
        ShadowHeirs x = Due.made("house hall 0 0 6 31;person ann 1 0;person bob 3 0;sun east 1;sun south 2;");
        Due.same("the SLIP of README.md", Due.slip(x, 0), "ann at 1 0 has 0 of hall");
    }

    private static List<String> rows(String page, String head) {
        List<String> names = new ArrayList<>();
        int at = page.indexOf("| " + head + " |");
        Due.yes("README.md has a table of " + head, at >= 0);
        String[] lines = page.substring(Math.max(at, 0)).split("\n");
        for (int i = 2; i < lines.length && lines[i].startsWith("| "); i++) {
            names.add(lines[i].replaceAll("^\\| (\\w+) \\|.*", "$1"));
        }
        return names;
    }

    private static List<String> inOrder(List<String> names) {
        List<String> sorted = new ArrayList<>(names);
        sorted.sort(null);
        return sorted;
    }

    private static void tablesAreWhole(String page) throws IOException {
        List<String> inside = new ArrayList<>();
        for (Class<?> c : ShadowHeirs.class.getDeclaredClasses()) {
            inside.add(c.getSimpleName());
        }
        Due.same("classes in README.md", inOrder(rows(page, "class inside")).toString(), inOrder(inside).toString());
        List<String> tests = new ArrayList<>();
        try (Stream<Path> files = Files.list(Path.of("src/test/java"))) {
            for (Path file : files.toList()) {
                String name = file.getFileName().toString().replace(".java", "");
                Due.yes("README.md names " + name, Pattern.compile("\\b" + name + "\\b").matcher(page).find());
                if (name.endsWith("Test")) {
                    tests.add(name);
                }
            }
        }
        Due.same("tests in README.md", inOrder(rows(page, "test")).toString(), inOrder(tests).toString());
    }

    private static void pathsAreThere(String page) {
        for (String line : block(page, "sh")) {
            Due.yes("a command of javac or java: " + line, line.startsWith("javac --release 17 ") || line.startsWith("java -cp "));
        }
        for (String path : new String[] {".ci/run", "src/main/java/ShadowHeirs.java", "src/test/java/Due.java"}) {
            Due.yes("README.md tells of " + path, page.contains("`" + path + "`"));
            Due.yes(path + " is there", Files.exists(Path.of(path)));
        }
        Due.yes(".ci/run can be run", Files.isExecutable(Path.of(".ci/run")));
    }

    public static void main(String[] args) throws Exception {
        String page = Files.readString(Path.of("README.md"), StandardCharsets.UTF_8);
        List<String> example = block(page, "java");
        exampleHolds(example);
        numbersAreTheTexts(example);
        slipIsAsWritten();
        tablesAreWhole(page);
        pathsAreThere(page);
        Due.finish("ReadmeTest");
    }
}

import java.nio.charset.StandardCharsets;
import java.nio.file.Files;
import java.nio.file.Path;
import java.util.List;
import java.util.regex.Matcher;
import java.util.regex.Pattern;

/** The rules of LANGUAGE.md that can be seen in the text of the class. */
public final class RulesTest {
    private static final String[] RULED_OUT = {
        "->", "::", "\\btry\\b", "\\bcatch\\b", "\\bfinally\\b", "\\bsynchronized\\b", "\\bassert\\b", "\\w+Exact\\b",
        "\\bpackage\\b", "\\bprotected\\b", "\\bhashCode\\b", "\\btoString\\b", "\\bSystem\\.(?!arraycopy)", "\\bThread\\b",
        "\\bRandom\\b", "\\bHashMap\\b", "\\bString\\.", "\\bstatic \\{", "\\bwhile \\(true\\)", "\" \\+", "\\+ \"",
        "@SuppressWarnings",
    };

    private static String withoutComments(String source) {
        return source.replaceAll("(?s)/\\*.*?\\*/", "").replaceAll("//[^\n]*", "");
    }

    private static void words(String code) {
        for (String rule : RULED_OUT) {
            Due.no("the class has " + rule, Pattern.compile(rule).matcher(code).find());
        }
        Matcher imports = Pattern.compile("(?m)^import (.*);$").matcher(code);
        while (imports.find()) {
            Due.same("import", imports.group(1), "java.util.NoSuchElementException");
        }
        Matcher thrown = Pattern.compile("\\bthrow\\b(.*)").matcher(code);
        while (thrown.find()) {
            Due.yes("throw" + thrown.group(1), thrown.group(1).startsWith(" new NoSuchElementException(\""));
        }
        Matcher statics = Pattern.compile("(?m)^ +(?:private |public )?static (?!final )[^(\n]*[;=]").matcher(code);
        Due.no("a static field that is not final", statics.find());
        for (int i = 0; i < code.length(); i++) {
            Due.yes("a sign of 1 to 127", code.charAt(i) < 128);
        }
    }

    private static void sizes(List<String> lines) {
        Pattern head = Pattern.compile("^( {4}| {8})(?!if|for|switch|while|return|else)\\w[^=;]*\\((.*)\\)[^;]*\\{$");
        int classes = 0;
        int fields = 0;
        int start = -1;
        String indent = "";
        for (int i = 0; i < lines.size(); i++) {
            String line = lines.get(i);
            Due.yes("line " + (i + 1) + " is short", line.length() <= 120);
            Matcher m = head.matcher(line);
            if (line.matches("^ *(public|private static) final class .*")) {
                classes++;
                fields = 0;
            } else if (m.matches()) {
                start = i;
                indent = m.group(1);
                Due.yes("parameters at " + (i + 1), m.group(2).split(",").length <= 7);
            } else if (start >= 0 && line.equals(indent + "}")) {
                Due.yes("the method at " + (start + 1) + " is short", i - start <= 60);
                start = -1;
            } else if (start < 0 && line.matches("^ +private (?!static).*;$")) {
                fields++;
                Due.yes("fields at " + (i + 1), fields <= 20);
            }
        }
        Due.yes("classes", classes <= 12);
    }

    public static void main(String[] args) throws Exception {
        String path = System.getenv("SHADOW_HEIRS_SOURCE");
        Path file = Path.of(path == null ? "src/main/java/ShadowHeirs.java" : path);
        String source = Files.readString(file, StandardCharsets.ISO_8859_1);
        words(withoutComments(source));
        sizes(List.of(source.split("\n")));
        Due.finish("RulesTest");
    }
}

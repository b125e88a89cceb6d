import java.io.IOException;
import java.nio.file.Files;
import java.nio.file.Paths;
import java.util.regex.Matcher;
import java.util.regex.Pattern;

/** What LANGUAGE.md leaves out and a look at the words can find. It is run from the project's folder. */
public final class LanguageTest {
    private static final Check CHECK = new Check("LanguageTest");
    private static final String[] LEFT_OUT = {
        "\\bthrows?\\b", "\\btry\\b", "\\bcatch\\b", "\\bfinally\\b", "\\bsynchronized\\b", "\\bassert\\b", "->", "::",
        "\\bpackage\\b", "\\bprotected\\b", "\\bvolatile\\b", "\\bnative\\b", "\\bvar\\b", "\\bNaN\\b",
        "\\bhashCode\\b", "\\btoString\\b", "\\w+Exact\\b", "\\bSystem\\.(?!arraycopy\\b)", "\\bThread\\b",
        "\\bRandom\\b", "@\\w+", "static\\s*\\{"};

    public static void main(String[] args) throws IOException {
        String source = new String(Files.readAllBytes(Paths.get("src/main/java/TripCalls.java")), "ISO-8859-1");
        String code = source.replaceAll("(?s)/\\*.*?\\*/", "").replaceAll("//[^\n]*", "");
        for (String word : LEFT_OUT) {
            Matcher found = Pattern.compile(word).matcher(code);
            CHECK.due(word, found.find() ? 1 : 0, 0);
        }
        Matcher imports = Pattern.compile("import ([\\w.*]+);").matcher(code);
        while (imports.find()) {
            CHECK.due("import " + imports.group(1), imports.group(1).equals("java.util.Arrays") ? 1 : 0, 1);
        }
        lengths(code);
        CHECK.end();
    }

    /** A method begins by a line that ends with ") {" beneath a class, and ends by a brace as deep as it. */
    private static void lengths(String code) {
        String[] lines = code.split("\n");
        int begun = -1;
        String end = "";
        for (int n = 0; n < lines.length; n++) {
            Matcher head = Pattern.compile("^( {4}| {8})(private|public|static|final|[\\w\\[\\]]+) .*\\) \\{$").matcher(lines[n]);
            if (begun < 0 && head.matches()) {
                begun = n;
                end = head.group(1) + "}";
            } else if (begun >= 0 && lines[n].equals(end)) {
                CHECK.due(lines[begun].trim() + " is too long", n - begun > 60 ? 1 : 0, 0);
                begun = -1;
            }
        }
    }
}

import java.io.IOException;
import java.nio.file.Files;
import java.nio.file.Path;
import java.util.ArrayList;
import java.util.List;
import java.util.regex.Matcher;
import java.util.regex.Pattern;

/** What of ../shared/LANGUAGE.md can be seen in the program's letters. */
public final class LanguageTest {
    private static final String[] FORBIDDEN = {
        "\\bthrow\\b", "\\bthrows\\b", "\\btry\\b", "\\bcatch\\b", "\\bfinally\\b", "\\bsynchronized\\b", "\\bassert\\b",
        "\\bimport\\b", "\\bpackage\\b", "->", "::", "\\bSystem\\b", "\\bThread\\b", "\\bObject\\b", "\\bRandom\\b",
        "\\bvar\\b", "\\bnative\\b", "\\bdouble\\b", "\\bfloat\\b", "\\bprotected\\b", "\\binstanceof\\b", "Exact\\b",
        "\\bjava\\b", "\\bequals\\b", "\\bhashCode\\b", "\\btoString\\b", "static \\{", "\" \\+", "\\+ \"", "while"
    };
    private static final String FACE = "feed town fault count person turn grudge law bear quarrel may hand begin drift comes"
        + " end forces best sure aside fresh most worth log clear judge seen have seed keep goBack";

    public static void main(String[] args) throws IOException {
        String source = Files.readString(Path.of("src/main/java/DeputyQuarrels.java"));
        String code = source.replaceAll("(?s)/\\*.*?\\*/", "").replaceAll("//[^\n]*", "");
        for (int i = 0; i < source.length(); i++) {
            if (source.charAt(i) > 126) Check.due("a sign beyond 126 at " + i, source.charAt(i), ' ');
        }
        for (String word : FORBIDDEN) Check.due("'" + word + "' stands in the program", count(code, word), 0);
        Check.due("classes inside that are not private static final",
            count(code, "\\bclass\\b"), 1 + count(code, "private static final class "));
        Check.due("some twelve classes at most", count(code, "\\bclass\\b") <= 12 ? 1 : 0, 1);
        List<String> face = new ArrayList<>(List.of(FACE.split(" ")));
        Matcher m = Pattern.compile("    public (?:static )?\\w+ (\\w+)\\(").matcher(code);
        while (m.find()) Check.due("a public method " + m.group(1), face.remove(m.group(1)) ? 1 : 0, 1);
        Check.due("methods of the face that are not there: " + face, face.size(), 0);
        methods(code);
        Check.close();
    }

    private static int count(String code, String regex) {
        int n = 0;
        for (Matcher m = Pattern.compile(regex).matcher(code); m.find();) n++;
        return n;
    }

    /** Each method's length and parameters, and that none inside bears a name of the face. */
    private static void methods(String code) {
        String[] lines = code.split("\n");
        Pattern head = Pattern.compile("( +)((?:public |private |static |final )*)[\\w\\[\\]]+ (\\w+)\\(([^)]*)\\) \\{");
        List<String> face = List.of(FACE.split(" "));
        int found = 0;
        for (int i = 0; i < lines.length; i++) {
            Matcher m = head.matcher(lines[i]);
            if (!m.matches() || lines[i].contains(" else ") || lines[i].contains(" new ")) continue;
            found++;
            int end = i;
            while (!lines[end].equals(m.group(1) + "}")) end++;
            Check.due(m.group(3) + " has over sixty lines", end - i > 60 ? 1 : 0, 0);
            Check.due(m.group(3) + " has over seven parameters", m.group(4).split(",").length > 7 ? 1 : 0, 0);
            if (!m.group(2).contains("public")) {
                Check.due(m.group(3) + " is a name of the face", face.contains(m.group(3)) ? 1 : 0, 0);
            }
        }
        Check.due("methods were found", found > 100 ? 1 : 0, 1);
    }
}

import java.io.IOException;
import java.nio.file.Files;
import java.nio.file.Path;
import java.util.regex.Matcher;
import java.util.regex.Pattern;

/** The source holds none of the words that LANGUAGE.md leaves out, and makes arrays in field initialisers only. */
public final class LanguageWords {
  private static final String FORBIDDEN =
      "\\b(package|import|throw|throws|try|catch|finally|synchronized|assert|instanceof|null|float|double|class|interface"
          + "|enum|record|String|Math|Integer|Long|System|Arrays|Object|var|super|native|volatile|protected)\\b|->|::|\"";

  public static void main(String[] args) throws IOException {
    String source = Files.readString(Path.of("src/main/java/OverloadPicker.java"));
    String code = source.replaceAll("//[^\n]*", "").replaceAll("(?s)/\\*.*?\\*/", "");
    String header = "public final class OverloadPicker {";
    Check.due("the class header comes first", code.trim().startsWith(header), true);
    Matcher found = Pattern.compile(FORBIDDEN).matcher(code.replaceFirst(Pattern.quote(header), ""));
    while (found.find()) {
      Check.due("the word " + found.group() + " in the source", 1, 0);
    }
    for (String line : code.split("\n")) {
      if (line.matches(".*\\bnew\\b.*")) {
        Check.due("an array field: " + line, line.matches("  private final (\\w+)\\[\\] \\w+ = new \\1\\[[A-Z_]+\\];"), true);
      }
    }
    Check.end();
  }
}

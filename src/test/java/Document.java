import java.io.IOException;
import java.nio.file.Files;
import java.nio.file.Path;
import java.util.ArrayList;
import java.util.List;
import java.util.regex.Matcher;
import java.util.regex.Pattern;

/** ../shared/DOC.md, and which of its words a test has quoted. Run from the project's folder. */
final class Document {
  static final int PROMISES = 35;

  /** The terms, then the sentence of each promise; blanks and line ends are one blank. */
  private final String[] parts = new String[PROMISES + 1];
  private final boolean[][] quoted = new boolean[PROMISES + 1][];

  Document() {
    String all = load().replaceAll("\\s+", " ");
    String calls = between(all, "An object is used", "## The public face");
    String terms = between(all, "15. BOOKS 0, 1", "Ahead of the calls `church`");
    // Numbers of the document's own parts and marks of its layout are no words of it.
    parts[0] = calls + terms.replace("15. ", "").replace("======== 2 ", "").replace("```text ", "").replace("``` ", "");
    for (int n = 1; n <= PROMISES; n++) {
      Matcher m = Pattern.compile("## Promise " + n + ": [^`]*`[^`]*`: (.*?) ##").matcher(all);
      if (!m.find()) throw new IllegalStateException("the document has no promise " + n);
      parts[n] = m.group(1);
    }
    for (int n = 0; n <= PROMISES; n++) quoted[n] = new boolean[parts[n].length()];
  }

  private static String load() {
    try {
      return Files.readString(Path.of("../shared/DOC.md"));
    } catch (IOException e) {
      throw new IllegalStateException("no document", e);
    }
  }

  private static String between(String all, String begin, String end) {
    int a = all.indexOf(begin);
    int b = all.indexOf(end, Math.max(a, 0));
    if (a < 0 || b < 0) throw new IllegalStateException("the document has no " + begin);
    return all.substring(a, b);
  }

  String promise(int n) {
    return parts[n];
  }

  /** Marks words of a promise's sentence, or else of the terms; false, if they stand in neither or are not clear. */
  boolean quote(int n, String words) {
    int part = parts[n].contains(words) ? n : 0;
    int place = parts[part].indexOf(words);
    if (place < 0 || parts[part].indexOf(words, place + 1) >= 0) return false;
    for (int i = place; i < place + words.length(); i++) quoted[part][i] = true;
    return true;
  }

  List<String> unquoted() {
    List<String> rest = new ArrayList<>();
    for (int n = 0; n <= PROMISES; n++) {
      StringBuilder run = new StringBuilder();
      for (int i = 0; i <= parts[n].length(); i++) {
        if (i < parts[n].length() && !quoted[n][i]) {
          run.append(parts[n].charAt(i));
          continue;
        }
        if (run.toString().matches(".*[A-Za-z0-9].*")) rest.add((n == 0 ? "terms" : "promise " + n) + ": " + run.toString().trim());
        run.setLength(0);
      }
    }
    return rest;
  }
}

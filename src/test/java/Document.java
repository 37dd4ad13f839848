import java.io.IOException;
import java.io.UncheckedIOException;
import java.nio.file.Files;
import java.nio.file.Path;
import java.util.regex.Matcher;
import java.util.regex.Pattern;

/** The document's own words, so that a test can name the sentence that it is there for. */
final class Document {
  static final int PROMISES = 37;
  private static final Path FILE = Path.of("../shared/DOC.md");
  private static final String[] PARTS = isHere() ? read() : new String[0];

  private Document() { }

  /** Whether the document lies beside the checkout; without it the tests ask as much, but look up no quote. */
  static boolean isHere() {
    return Files.isReadable(FILE);
  }

  /** What a promise says, or what the Terms say (0), with one blank between words. */
  static String part(int promise) {
    return PARTS[promise];
  }

  private static String[] read() {
    String all;
    try {
      all = Files.readString(FILE);
    } catch (IOException e) {
      throw new UncheckedIOException(e);
    }
    String[] parts = new String[PROMISES + 1];
    parts[0] = between(all, "## Terms\n", "## Promise 1:").replaceAll("```(text)?|==== I+\\.", " ");
    for (int promise = 1; promise <= PROMISES; promise++) {
      Matcher found = Pattern.compile("## Promise " + promise + ": [^\n]*\n(.*?)(\n## |$)", Pattern.DOTALL).matcher(all);
      if (!found.find()) {
        throw new IllegalStateException("no promise " + promise);
      }
      parts[promise] = found.group(1).replaceFirst("^\\s*`[^`]*`:", "");
    }
    for (int i = 0; i < parts.length; i++) {
      parts[i] = parts[i].replaceAll("\\s+", " ").trim();
    }
    return parts;
  }

  private static String between(String all, String from, String to) {
    int start = all.indexOf(from);
    int stop = all.indexOf(to);
    if (start < 0 || stop < start) {
      throw new IllegalStateException("no " + from);
    }
    return all.substring(start + from.length(), stop);
  }
}

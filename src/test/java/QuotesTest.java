import java.io.IOException;
import java.nio.file.DirectoryStream;
import java.nio.file.Files;
import java.nio.file.Path;
import java.util.ArrayList;
import java.util.List;
import java.util.regex.Matcher;
import java.util.regex.Pattern;

/** No sentence of the Terms and of the promises 1 to 37 is without a test that names it. */
public final class QuotesTest {
  private static final Check C = new Check();
  private static final String TEXT = "\"(?:[^\"\\\\]|\\\\.)*\"";
  private static final Pattern SAYS = Pattern.compile("\\.says\\((\\d+),\\s*(" + TEXT + "(?:\\s*\\+\\s*" + TEXT + ")*)\\)");

  public static void main(String[] args) throws IOException {
    if (!Document.isHere()) {
      System.out.println("the document is not here: its sentences are not looked through");
      return;
    }
    List<List<String>> quotes = new ArrayList<>();
    for (int promise = 0; promise <= Document.PROMISES; promise++) {
      quotes.add(new ArrayList<>());
    }
    try (DirectoryStream<Path> files = Files.newDirectoryStream(Path.of("src/test/java"), "*.java")) {
      for (Path file : files) {
        Matcher found = SAYS.matcher(Files.readString(file));
        while (found.find()) {
          quotes.get(Integer.parseInt(found.group(1))).add(joined(found.group(2)));
        }
      }
    }
    for (int promise = 0; promise <= Document.PROMISES; promise++) {
      lookThrough(promise, quotes.get(promise));
    }
    C.close();
  }

  private static String joined(String literal) {
    StringBuilder out = new StringBuilder();
    Matcher part = Pattern.compile(TEXT).matcher(literal);
    while (part.find()) {
      out.append(part.group(), 1, part.group().length() - 1);
    }
    return out.toString().replaceAll("\\\\(.)", "$1");
  }

  private static void lookThrough(int promise, List<String> quotes) {
    String text = Document.part(promise);
    StringBuilder left = new StringBuilder(text);
    for (String quote : quotes) {
      int at = text.indexOf(quote);
      C.isTrue("the document says in " + promise + ": " + quote, at >= 0 && !quote.isEmpty());
      for (; at >= 0 && !quote.isEmpty(); at = text.indexOf(quote, at + 1)) {
        for (int i = at; i < at + quote.length(); i++) {
          left.setCharAt(i, '~');
        }
      }
    }
    String rest = left.toString().replaceAll("~+", "~");
    C.isTrue("no test names, in " + promise + ": " + rest, !Pattern.compile("[A-Za-z0-9]").matcher(rest).find());
  }
}

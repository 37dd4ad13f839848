import java.io.IOException;
import java.lang.reflect.Method;
import java.lang.reflect.Modifier;
import java.net.URL;
import java.net.URLClassLoader;
import java.nio.file.Files;
import java.nio.file.Path;
import java.util.ArrayList;
import java.util.Comparator;
import java.util.List;
import java.util.regex.Matcher;
import java.util.regex.Pattern;
import java.util.stream.Stream;
import javax.tools.ToolProvider;

/** What README.md says of using the class: its code is compiled and run, and each call it shows answers as it says. */
public final class ReadmeTest {
  private static final Check C = new Check();
  private static final Pattern BLOCK = Pattern.compile("```(\\w+)\n(.*?)```", Pattern.DOTALL);
  private static final Pattern CALL = Pattern.compile("(row\\.(\\w+)\\([^;]*\\));\\s*// (-?\\d+): \\S.*");
  private static final Pattern OTHER = Pattern.compile("ErrataRow row = new ErrataRow\\(\\);|tell\\(row, \"[^\"]*\"\\);");

  /** The calls shown, and for each what README.md says that it answers. */
  private static final List<String> CALLS = new ArrayList<>();
  private static final List<Integer> SAID = new ArrayList<>();

  public static void main(String[] args) throws Exception {
    String readme = Files.readString(Path.of("README.md"));
    answers(codeOf(readme));
    everyCallIsShown();
    paths(readme);
    commands(readme);
    C.close();
  }

  /** A program that keeps the answers of all calls shown: a block that begins with static is a method, others are runs. */
  private static String codeOf(String readme) {
    StringBuilder members = new StringBuilder();
    StringBuilder runs = new StringBuilder();
    for (String block : blocks(readme, "java")) {
      if (block.startsWith("static ")) {
        members.append(block);
      } else {
        runs.append("{\n").append(runOf(block)).append("}\n");
      }
    }
    return "public final class ReadmeCode {\n" + members
        + "public static void run(java.util.List<Integer> answers) {\n" + runs + "}\n}\n";
  }

  private static String runOf(String block) {
    StringBuilder run = new StringBuilder();
    for (String line : block.split("\n")) {
      Matcher call = CALL.matcher(line);
      if (call.matches()) {
        run.append("answers.add(").append(call.group(1)).append(");\n");
        CALLS.add(call.group(1));
        SAID.add(Integer.valueOf(call.group(3)));
      } else {
        C.isTrue("a line of code, or a call with its answer: " + line, OTHER.matcher(line).matches());
        run.append(line).append('\n');
      }
    }
    return run.toString();
  }

  private static List<String> blocks(String readme, String kind) {
    List<String> blocks = new ArrayList<>();
    Matcher matcher = BLOCK.matcher(readme);
    while (matcher.find()) {
      if (matcher.group(1).equals(kind)) {
        blocks.add(matcher.group(2));
      }
    }
    C.isTrue("there is code of kind " + kind, !blocks.isEmpty());
    return blocks;
  }

  private static void answers(String code) throws Exception {
    List<Integer> got = new ArrayList<>();
    Path home = Files.createTempDirectory("readme");
    try {
      Path source = Files.writeString(home.resolve("ReadmeCode.java"), code);
      int compiled = ToolProvider.getSystemJavaCompiler().run(null, null, null, "-Xlint:all", "-Werror",
          "-cp", System.getProperty("java.class.path"), "-d", home.toString(), source.toString());
      C.due("compiling what README.md shows", compiled, 0);
      if (compiled == 0) {
        run(home, got);
      }
    } finally {
      remove(home);
    }
    C.due("how many calls were answered", got.size(), CALLS.size());
    for (int i = 0; i < got.size(); i++) {
      C.due("README.md: " + CALLS.get(i), got.get(i), SAID.get(i));
    }
  }

  private static void run(Path home, List<Integer> got) throws Exception {
    URL[] where = {home.toUri().toURL()};
    try (URLClassLoader loader = new URLClassLoader(where, ReadmeTest.class.getClassLoader())) {
      loader.loadClass("ReadmeCode").getMethod("run", List.class).invoke(null, got);
    }
  }

  private static void remove(Path home) throws IOException {
    try (Stream<Path> files = Files.walk(home)) {
      for (Path file : files.sorted(Comparator.reverseOrder()).toList()) {
        Files.delete(file);
      }
    }
  }

  private static void everyCallIsShown() {
    for (Method method : ErrataRow.class.getDeclaredMethods()) {
      if (Modifier.isPublic(method.getModifiers())) {
        String start = "row." + method.getName() + "(";
        C.isTrue("README.md shows " + start, CALLS.stream().anyMatch(call -> call.startsWith(start)));
      }
    }
  }

  private static void paths(String readme) {
    Matcher matcher = Pattern.compile("`((?:src|\\.ci)/[^`*]*)`").matcher(readme);
    int many = 0;
    while (matcher.find()) {
      C.isTrue(matcher.group(1) + " is there", Files.exists(Path.of(matcher.group(1))));
      many++;
    }
    C.isTrue("README.md names paths", many > 0);
  }

  /** The programs that the commands run are there. */
  private static void commands(String readme) {
    String commands = String.join("", blocks(readme, "sh"));
    C.isTrue("README.md runs .ci/run", commands.startsWith(".ci/run\n") && Files.isExecutable(Path.of(".ci/run")));
    Matcher matcher = Pattern.compile("(?m)^java -cp \\S+ (\\w+)").matcher(commands);
    while (matcher.find()) {
      C.isTrue(matcher.group(1) + " is a test", Files.exists(Path.of("src/test/java", matcher.group(1) + ".java")));
    }
  }
}

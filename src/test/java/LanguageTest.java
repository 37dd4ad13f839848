import java.io.IOException;
import java.lang.reflect.Constructor;
import java.lang.reflect.Field;
import java.lang.reflect.Method;
import java.lang.reflect.Modifier;
import java.nio.file.Files;
import java.nio.file.Path;
import java.util.Arrays;
import java.util.List;
import java.util.Set;
import java.util.TreeSet;
import java.util.regex.Matcher;
import java.util.regex.Pattern;

/** What of ../shared/LANGUAGE.md, and of the document's face, a program can look at. */
public final class LanguageTest {
  private static final Check C = new Check();
  private static final String FACE = "feed/5 end/1 book/0 rule/0 force/1 letter/2 habit/2 edition/0 set/2 mend/1 "
      + "hang/2 fill/1 undo/0 ahead/3 allRight/0 firstRight/1 unpaid/1 row/2 rings/0 twice/1 apart/3 one/2 "
      + "leftOff/2 leastPurse/1 putAs/1 rests/4 ring/1 pence/2 note/3 ruled/1 look/2 seed/1 slips/4 count/1 "
      + "image/1 back/1";
  private static final String[] BANNED = {"\\bthrow\\b", "\\bthrows\\b", "\\btry\\b", "\\bcatch\\b",
      "\\bsynchronized\\b", "\\bassert\\b", "->", "::", "\\bdouble\\b", "\\bfloat\\b", "\\bvar\\b", "Exact\\b",
      "\\bequals\\b", "\\bhashCode\\b", "\\btoString\\b", "\\bThread\\b", "\\bRandom\\b", "\\bprotected\\b",
      "\\bpackage\\b", "currentTimeMillis", "nanoTime", "\\bnew\\s+\\w+\\s*\\([^)]*\\)\\s*\\{", "\\bstatic\\s*\\{",
      "\"\\s*\\+", "\\+\\s*\"", "\\bObject\\b", "\\bwhile\\s*\\(\\s*true", "for\\s*\\(\\s*;\\s*;"};

  public static void main(String[] args) throws IOException {
    String source = Files.readString(Path.of("src/main/java/ErrataRow.java"));
    face();
    C.isTrue("signs 1 to 127 alone", source.chars().allMatch(c -> c >= 1 && c <= 127));
    String bare = bare(source);
    for (String banned : BANNED) {
      Matcher matcher = Pattern.compile(banned).matcher(bare);
      C.isTrue("no " + banned, !matcher.find());
    }
    imports(bare);
    nested(ErrataRow.class);
    privateNames();
    shortMethods(bare);
    C.close();
  }

  /** Without comments and without what stands in texts and signs. */
  private static String bare(String source) {
    String bare = source.replaceAll("(?s)/\\*.*?\\*/", "").replaceAll("//[^\n]*", "");
    return bare.replaceAll("\"(\\\\.|[^\"\\\\])*\"", "\"\"").replaceAll("'(\\\\.|[^'\\\\])'", "' '");
  }

  private static void face() {
    Set<String> want = new TreeSet<>(Arrays.asList(FACE.split(" ")));
    Set<String> got = new TreeSet<>();
    for (Method method : ErrataRow.class.getDeclaredMethods()) {
      if (!Modifier.isPrivate(method.getModifiers())) {
        got.add(method.getName() + "/" + method.getParameterCount());
        C.isTrue(method + " is public and of int", Modifier.isPublic(method.getModifiers())
            && method.getReturnType() == int.class && !Modifier.isStatic(method.getModifiers())
            && Arrays.stream(method.getParameterTypes()).allMatch(t -> t == int.class));
      }
    }
    C.isTrue("the methods are those of the document: " + got, got.equals(want));
    for (Field field : ErrataRow.class.getDeclaredFields()) {
      C.isTrue(field + " is private or NONE",
          Modifier.isPrivate(field.getModifiers()) || field.getName().equals("NONE"));
    }
    Constructor<?>[] constructors = ErrataRow.class.getDeclaredConstructors();
    C.isTrue("one public constructor", constructors.length == 1
        && Modifier.isPublic(constructors[0].getModifiers()) && constructors[0].getParameterCount() == 0);
    C.isTrue("public and final", Modifier.isPublic(ErrataRow.class.getModifiers())
        && Modifier.isFinal(ErrataRow.class.getModifiers()));
  }

  private static void imports(String bare) {
    Matcher matcher = Pattern.compile("import ([^;]*);").matcher(bare);
    while (matcher.find()) {
      C.isTrue("import " + matcher.group(1), List.of("java.util.Arrays", "java.util.ArrayList", "java.util.List")
          .contains(matcher.group(1)));
    }
  }

  private static void nested(Class<?> outer) {
    Class<?>[] classes = outer.getDeclaredClasses();
    C.isTrue("at most some twelve classes", classes.length + 1 <= 13);
    for (Class<?> inner : classes) {
      C.isTrue(inner + " is static", Modifier.isStatic(inner.getModifiers()));
      C.isTrue(inner + " is not public", !Modifier.isPublic(inner.getModifiers()));
      fields(inner);
    }
    fields(outer);
  }

  private static void fields(Class<?> owner) {
    int own = 0;
    for (Field field : owner.getDeclaredFields()) {
      boolean isStatic = Modifier.isStatic(field.getModifiers());
      C.isTrue(field + ": static fields are final", !isStatic || Modifier.isFinal(field.getModifiers()));
      own += isStatic ? 0 : 1;
    }
    C.isTrue(owner + " has at most twenty fields: " + own, own <= 20);
  }

  private static void privateNames() {
    Set<String> names = new TreeSet<>();
    for (String method : FACE.split(" ")) {
      names.add(method.substring(0, method.indexOf('/')));
    }
    for (Class<?> inner : ErrataRow.class.getDeclaredClasses()) {
      for (Method method : inner.getDeclaredMethods()) {
        C.isTrue(method + " has a name of its own", !names.contains(method.getName()));
      }
    }
    for (Method method : ErrataRow.class.getDeclaredMethods()) {
      C.isTrue(method + " has a name of its own",
          Modifier.isPublic(method.getModifiers()) || !names.contains(method.getName()));
      C.isTrue(method + " takes at most seven", method.getParameterCount() <= 7);
    }
  }

  private static void shortMethods(String bare) {
    String[] lines = bare.split("\n", -1);
    int start = -1;
    String indent = "";
    int methods = 0;
    for (int i = 0; i < lines.length; i++) {
      Matcher head = Pattern.compile("( {4}| {8})\\w[^=;]*\\)\\s*\\{").matcher(lines[i]);
      if (start < 0 && head.matches()) {
        start = i;
        indent = head.group(1);
        methods++;
      } else if (start >= 0 && lines[i].equals(indent + "}")) {
        C.isTrue("a method of at most sixty lines at line " + start, i - start < 60);
        start = -1;
      }
    }
    C.isTrue("the methods were found: " + methods, methods > 60);
  }
}

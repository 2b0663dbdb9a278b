import java.io.IOException;
import java.lang.management.ManagementFactory;
import java.lang.reflect.Constructor;
import java.lang.reflect.Field;
import java.lang.reflect.Method;
import java.lang.reflect.Modifier;
import java.nio.file.Files;
import java.nio.file.Path;
import java.util.ArrayList;
import java.util.HashSet;
import java.util.List;
import java.util.Set;
import java.util.TreeSet;
import java.util.regex.Matcher;
import java.util.regex.Pattern;

/** What of ../shared/LANGUAGE.md can be seen from the source and from the compiled class. Run from the project's folder. */
public final class LanguageTest {
  private static final Path SOURCE = Path.of("src/main/java/EveryPew.java");
  private static final Path DOCUMENT = Path.of("../shared/DOC.md");
  private static int wrong = 0;

  private static void must(boolean holds, String what) {
    if (!holds) {
      wrong++;
      System.out.println(what);
    }
  }

  public static void main(String[] args) throws IOException {
    String source = Files.readString(SOURCE);
    faceIsTheDocuments(Files.readString(DOCUMENT));
    wordsThatAreOut(bare(source));
    methodsAreShort(bare(source));
    classesAreFew();
    callsMakeNothing();
    System.out.println(wrong == 0 ? "within the language" : wrong + " outside the language");
    if (wrong > 0) System.exit(1);
  }

  /** Without comments and texts. */
  private static String bare(String source) {
    String s = source.replaceAll("(?s)/\\*.*?\\*/", "");
    s = s.replaceAll("//[^\n]*", "");
    return s.replaceAll("\"[^\"\n]*\"", "\"\"");
  }

  private static void faceIsTheDocuments(String document) {
    Set<String> told = new TreeSet<>();
    Matcher m = Pattern.compile("public (int|long) (\\w+)\\(([^)]*)\\);").matcher(document);
    while (m.find()) told.add(m.group(1) + " " + m.group(2) + "(" + m.group(3).replaceAll(" \\w+(,|$)", "$1").replace(", ", ",") + ")");
    Set<String> is = new TreeSet<>();
    Set<String> names = new HashSet<>();
    for (Method method : EveryPew.class.getDeclaredMethods()) {
      if (!Modifier.isPublic(method.getModifiers())) continue;
      List<String> types = new ArrayList<>();
      for (Class<?> type : method.getParameterTypes()) types.add(type.getName());
      is.add(method.getReturnType().getName() + " " + method.getName() + "(" + String.join(",", types) + ")");
      names.add(method.getName());
    }
    must(told.size() == 34, "the document's face was not found");
    must(told.equals(is), "the face is " + is + ", told is " + told);
    for (Method method : EveryPew.class.getDeclaredMethods()) {
      boolean open = Modifier.isPublic(method.getModifiers());
      must(open || Modifier.isPrivate(method.getModifiers()), method + " is neither public nor private");
      must(open || !names.contains(method.getName()), method + " bears a public name");
    }
    for (Class<?> inside : EveryPew.class.getDeclaredClasses())
      for (Method method : inside.getDeclaredMethods()) must(!names.contains(method.getName()), method + " bears a public name");
    for (Field field : EveryPew.class.getDeclaredFields())
      must(Modifier.isPrivate(field.getModifiers()) || Set.of("NONE", "BAD", "NO", "FULL").contains(field.getName()), field + " is open");
    for (Constructor<?> made : EveryPew.class.getDeclaredConstructors())
      must(Modifier.isPublic(made.getModifiers()) && made.getParameterCount() == 0, made + " is not told");
    must(Modifier.isPublic(EveryPew.class.getModifiers()) && Modifier.isFinal(EveryPew.class.getModifiers()), "the class is not public and final");
  }

  private static void wordsThatAreOut(String source) {
    String[] out = {"package", "throw", "throws", "try", "catch", "finally", "synchronized", "assert", "native", "volatile",
      "transient", "strictfp", "System\\.(?!arraycopy)", "Exact\\(", "->", "::", "hashCode", "toString", "protected", "double", "float", "@"};
    for (String word : out) {
      String edge = Character.isLetter(word.charAt(0)) ? "\\b" : "";
      String end = Character.isLetter(word.charAt(word.length() - 1)) ? "\\b" : "";
      must(!Pattern.compile(edge + word + end).matcher(source).find(), "the source has " + word);
    }
    Matcher imports = Pattern.compile("import ([\\w.*]+);").matcher(source);
    while (imports.find()) must(Set.of("java.util.Arrays", "java.util.ArrayList", "java.util.List").contains(imports.group(1)), "imports " + imports.group(1));
    for (int i = 0; i < source.length(); i++) must(source.charAt(i) < 128, "a sign beyond 127 at " + i);
    Matcher statics = Pattern.compile("\\bstatic (?!final|class|boolean \\w+\\(|int \\w+\\(|long \\w+\\(|void \\w+\\()[^;{]*").matcher(source);
    while (statics.find()) must(false, "static state: " + statics.group());
  }

  private static void methodsAreShort(String source) {
    String[] lines = source.split("\n");
    int begun = -1;
    String indent = "";
    for (int i = 0; i < lines.length; i++) {
      Matcher head = Pattern.compile("^( {4}| {8})(?!static class|static final class|public final class)\\S[^=;]*\\((.*)\\{$").matcher(lines[i]);
      if (begun < 0 && head.find()) {
        begun = i;
        indent = head.group(1);
        must(head.group(2).split(",").length <= 7, "more than seven parameters: " + lines[i]);
      } else if (begun >= 0 && lines[i].equals(indent + "}")) {
        must(i - begun <= 60, "longer than sixty lines: " + lines[begun]);
        begun = -1;
      }
    }
  }

  private static void classesAreFew() {
    Class<?>[] inside = EveryPew.class.getDeclaredClasses();
    must(inside.length + 1 <= 12, inside.length + 1 + " classes");
    for (Class<?> c : inside) {
      must(Modifier.isStatic(c.getModifiers()), c + " is not static");
      int fields = 0;
      for (Field field : c.getDeclaredFields()) if (!Modifier.isStatic(field.getModifiers())) fields++;
      must(fields <= 20, c + " has " + fields + " fields");
    }
  }

  /** All calls of a run live in one room, so only the constructor makes objects. */
  private static void callsMakeNothing() {
    com.sun.management.ThreadMXBean threads = (com.sun.management.ThreadMXBean) ManagementFactory.getThreadMXBean();
    long id = Thread.currentThread().getId();
    int[] text = "church 3;book 0 1 2;family 0 0 5 5 0;family 1 1 5 5 1;cold 0;".chars().toArray();
    EveryPew x = new EveryPew();
    for (int round = 0; round < 3; round++) callAll(x, text);
    long before = threads.getThreadAllocatedBytes(id);
    for (int round = 0; round < 100; round++) callAll(x, text);
    long made = threads.getThreadAllocatedBytes(id) - before;
    must(made < 10000, "a hundred rounds of all calls made " + made + " bytes");
  }

  private static void callAll(EveryPew x, int[] text) {
    x.clear();
    for (int c : text) x.type(c);
    x.read();
    x.book(1, 77);
    for (int i = 0; i < 6; i++) x.family(i, i % 2, 4 + i % 5, 7, i + 4);
    x.move(0, 2);
    x.cold(1, 1);
    x.undo();
    x.heard(0, 0, 7);
    x.coughed(1);
    x.next();
    x.is(0);
    x.seats(-1);
    x.seats(0);
    x.change(0);
    x.still();
    x.deacons(1);
    x.feasts(40, 1, 39, 0);
    x.colds(2, 3);
    x.sundays(5, 60);
    x.part(0);
    x.image(0);
    x.from(0);
    x.of(0, 4);
    x.at(0, 0, 3);
    x.up(0);
    x.seers(0);
    x.loud(0, 0);
    x.breach(0);
    x.canNot();
    x.forget();
    x.status(0);
    x.count(3);
    x.digest();
    x.church(9);
  }
}

import java.io.ByteArrayOutputStream;
import java.io.IOException;
import java.io.PrintStream;
import java.net.URL;
import java.net.URLClassLoader;
import java.nio.file.Files;
import java.nio.file.Path;
import java.util.ArrayList;
import java.util.List;
import java.util.regex.Matcher;
import java.util.regex.Pattern;
import javax.tools.JavaCompiler;
import javax.tools.ToolProvider;

/** That README.md shows every call, group by group, and that its examples answer what it says. Run from the project's folder. */
public final class ReadmeTest {
  private static final Pattern ANSWERED = Pattern.compile("^([xy]\\.\\w+\\(.*\\)); *// (-?\\d+)(: .*)?$");
  private static int wrong = 0;
  private static int answers = 0;

  private static void fail(String what) {
    wrong++;
    System.out.println(what);
  }

  /** The examples, as they are compiled below, call it. */
  public static void due(String call, long got, long want) {
    answers++;
    if (got != want) fail(call + " answered " + got + ", README.md says " + want);
  }

  public static void main(String[] args) throws Exception {
    String readme = Files.readString(Path.of("README.md"));
    everyGroupIsShown(readme, Files.readString(Path.of("../shared/DOC.md")));
    refusalsAreTold(readme);
    Path room = Files.createTempDirectory("readme");
    try {
      runExamples(blocks(readme), readme, room);
    } finally {
      for (String name : new String[] {"Try.java", "Try.class", "Story.java", "Story.class"}) Files.deleteIfExists(room.resolve(name));
      Files.deleteIfExists(room);
    }
    if (answers < 60) fail("only " + answers + " examples with an answer were found");
    System.out.println(answers + " examples of README.md, " + wrong + " wrong");
    if (wrong > 0) System.exit(1);
  }

  private static List<String> blocks(String part) {
    List<String> blocks = new ArrayList<>();
    Matcher m = Pattern.compile("(?s)```java\n(.*?)```").matcher(part);
    while (m.find()) blocks.add(m.group(1));
    return blocks;
  }

  /** Each of the document's groups has a part of its own, with each of its calls in the table and in an example. */
  private static void everyGroupIsShown(String readme, String document) {
    Matcher groups = Pattern.compile("Ahead of the calls (.*) the interface says: ---- (.*)\\.").matcher(document);
    int calls = 0;
    while (groups.find()) {
      String title = groups.group(2).substring(0, 1).toUpperCase() + groups.group(2).substring(1);
      Matcher part = Pattern.compile("(?s)\n### " + title + "\n(.*?)\n##").matcher(readme);
      if (!part.find()) {
        fail("README.md has no part " + title);
        continue;
      }
      String examples = String.join("", blocks(part.group(1)));
      Matcher names = Pattern.compile("`(\\w+)`").matcher(groups.group(1));
      while (names.find()) {
        calls++;
        if (!part.group(1).contains("\n| `" + names.group(1) + "(")) fail("the table of " + title + " lacks " + names.group(1));
        if (!Pattern.compile("\\b[xy]\\." + names.group(1) + "\\(").matcher(examples).find()) fail(title + " has no example of " + names.group(1));
      }
    }
    if (calls != 34) fail("the document's groups were not found");
  }

  private static void refusalsAreTold(String readme) {
    String[] rows = {EveryPew.BAD + " | `EveryPew.BAD`", EveryPew.NO + " | `EveryPew.NO`", EveryPew.FULL + " | `EveryPew.FULL`"};
    for (String row : rows) if (!readme.contains("\n| " + row + " |")) fail("README.md does not tell " + row);
    if (!readme.contains("`EveryPew.NONE` (" + EveryPew.NONE + ")")) fail("README.md does not tell NONE");
    if (!readme.contains("\n```sh\n.ci/run\n```")) fail("README.md does not tell how to run the tests");
  }

  private static void runExamples(List<String> blocks, String readme, Path room) throws Exception {
    if (blocks.isEmpty() || !blocks.get(0).startsWith("public final class Try ")) {
      fail("README.md does not begin with a program");
      return;
    }
    String story = storyOf(blocks.subList(1, blocks.size()));
    if (!compiles(room, "Try", blocks.get(0)) || !compiles(room, "Story", story)) {
      fail("an example does not compile");
      return;
    }
    Matcher prints = Pattern.compile("it prints `(.*)`").matcher(readme);
    String told = prints.find() ? prints.group(1) : "";
    String printed = runMain(room, "Try").trim();
    if (!printed.equals(told)) fail("Try prints " + printed + ", README.md says " + told);
    System.out.print(runMain(room, "Story"));
  }

  /** One method of all blocks, in which each line with an answer behind it is looked at. */
  private static String storyOf(List<String> blocks) {
    StringBuilder story = new StringBuilder("public final class Story {\npublic static void main(String[] args) {\n");
    for (String block : blocks)
      for (String line : block.split("\n")) {
        Matcher m = ANSWERED.matcher(line);
        if (line.matches("[xy]\\..*//.*") && !m.find()) fail("no example as they are: " + line);
        m.reset();
        if (m.find()) line = "ReadmeTest.due(\"" + m.group(1) + "\", " + m.group(1) + ", " + m.group(2) + "L);";
        story.append(line).append('\n');
      }
    return story.append("}\n}\n").toString();
  }

  private static boolean compiles(Path room, String name, String source) throws IOException {
    JavaCompiler compiler = ToolProvider.getSystemJavaCompiler();
    if (compiler == null) return false;
    Path file = room.resolve(name + ".java");
    Files.writeString(file, source);
    return compiler.run(null, null, null, "-cp", System.getProperty("java.class.path"), "-d", room.toString(), file.toString()) == 0;
  }

  private static String runMain(Path room, String name) throws Exception {
    PrintStream old = System.out;
    ByteArrayOutputStream printed = new ByteArrayOutputStream();
    System.setOut(new PrintStream(printed, true));
    try (URLClassLoader loader = new URLClassLoader(new URL[] {room.toUri().toURL()}, ReadmeTest.class.getClassLoader())) {
      loader.loadClass(name).getMethod("main", String[].class).invoke(null, (Object) new String[0]);
    } finally {
      System.setOut(old);
    }
    return printed.toString();
  }
}

import java.lang.reflect.Method;
import java.net.URL;
import java.net.URLClassLoader;
import java.nio.file.Files;
import java.nio.file.Path;
import java.util.ArrayList;
import java.util.Comparator;
import java.util.List;
import java.util.Set;
import java.util.TreeSet;
import java.util.regex.Matcher;
import java.util.regex.Pattern;
import java.util.stream.Stream;
import javax.tools.JavaCompiler;
import javax.tools.ToolProvider;

/** Makes the calls that README.md shows, in their order, and compares each answer with the one behind its //. */
public final class ReadmeTest {
  private static final Pattern NEW_TOWN = Pattern.compile("HairpinLocks town = new HairpinLocks\\(\\);");
  private static final Pattern CALL =
      Pattern.compile("((?:town\\.(\\w+)|text)\\(.*\\)); +// (true|false|-?\\d+)(?:: .*)?");
  private static final int MOST_CALLS = 512;
  private static final Due due = new Due();

  private final List<String> readme;
  private final StringBuilder helpers = new StringBuilder();
  private final StringBuilder calls = new StringBuilder();
  private final Set<String> shown = new TreeSet<>();
  private int towns;

  private ReadmeTest(List<String> readme) {
    this.readme = readme;
  }

  /** What the calls of README.md are compiled to speaks to this. */
  public static void answered(String call, Object got, String want) {
    due.yes(call + " is " + want + ", as README.md says, not " + got, String.valueOf(got).equals(want));
  }

  public static void main(String[] args) throws Exception {
    ReadmeTest test = new ReadmeTest(Files.readAllLines(Path.of("README.md")));
    test.readBlocks();
    test.makeCalls();
    test.allAreShown();
    test.allTestsAreNamed();
    due.end();
  }

  private void readBlocks() {
    List<String> block = null;
    int first = 0;
    for (int i = 0; i < readme.size(); i++) {
      String line = readme.get(i);
      if (block == null && line.equals("```java")) {
        block = new ArrayList<>();
        first = i + 2;
      } else if (block != null && line.equals("```")) {
        readBlock(block, first);
        block = null;
      } else if (block != null) {
        block.add(line);
      }
    }
    due.yes("the last block of README.md ends", block == null);
  }

  private void readBlock(List<String> block, int first) {
    if (!block.isEmpty() && block.get(0).startsWith("static ")) {
      helpers.append(String.join("\n", block)).append('\n');
      return;
    }
    calls.append("{\n");
    int many = 0;
    for (int i = 0; i < block.size(); i++) {
      String place = "README.md, line " + (first + i) + ": ";
      Matcher call = CALL.matcher(block.get(i));
      if (i == 0) {
        due.yes(place + "a block begins with a new town", NEW_TOWN.matcher(block.get(i)).matches());
        calls.append(block.get(i)).append('\n');
        towns++;
      } else if (call.matches()) {
        String name = quoted(place + call.group(1));
        calls.append("ReadmeTest.answered(").append(name).append(", ").append(call.group(1)).append(", ")
            .append(quoted(call.group(3))).append(");\n");
        shown.add(call.group(2) == null ? "text" : call.group(2));
        many++;
      } else {
        due.yes(place + "a call with its answer: " + block.get(i), false);
      }
    }
    due.yes("calls of the block at line " + first, many > 0 && many <= MOST_CALLS);
    calls.append("}\n");
  }

  private static String quoted(String text) {
    return "\"" + text.replace("\\", "\\\\").replace("\"", "\\\"") + "\"";
  }

  private void makeCalls() throws Exception {
    due.yes("README.md shows towns", towns > 0);
    Path folder = Files.createTempDirectory("readme");
    try {
      Path source = folder.resolve("Shown.java");
      Files.writeString(source, "public final class Shown {\n" + helpers
          + "public static void run() {\n" + calls + "}\n}\n");
      JavaCompiler compiler = ToolProvider.getSystemJavaCompiler();
      int code = compiler.run(null, null, null, "--release", "17", "-d", folder.toString(),
          "-cp", System.getProperty("java.class.path"), source.toString());
      due.is("what README.md shows compiles", code, 0);
      if (code == 0) {
        try (URLClassLoader loader = new URLClassLoader(new URL[] {folder.toUri().toURL()})) {
          loader.loadClass("Shown").getMethod("run").invoke(null);
        }
      }
    } finally {
      try (Stream<Path> files = Files.walk(folder)) {
        files.sorted(Comparator.reverseOrder()).forEach(file -> file.toFile().delete());
      }
    }
  }

  private void allAreShown() {
    for (Method method : HairpinLocks.class.getMethods()) {
      if (method.getDeclaringClass() == HairpinLocks.class) {
        due.yes("README.md shows " + method.getName(), shown.contains(method.getName()));
      }
    }
  }

  private void allTestsAreNamed() throws Exception {
    Set<String> there = new TreeSet<>();
    try (Stream<Path> files = Files.list(Path.of("src/test/java"))) {
      files.map(file -> file.getFileName().toString()).filter(name -> name.endsWith("Test.java"))
          .forEach(name -> there.add(name.substring(0, name.length() - 5)));
    }
    Set<String> named = new TreeSet<>();
    for (String line : readme) {
      Matcher row = Pattern.compile("\\| (\\w+Test) \\|.*").matcher(line);
      if (row.matches()) {
        named.add(row.group(1));
      }
    }
    due.yes("README.md names " + named + ", there are " + there, named.equals(there));
  }
}

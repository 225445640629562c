import java.io.StringWriter;
import java.lang.reflect.Method;
import java.lang.reflect.Modifier;
import java.net.URL;
import java.net.URLClassLoader;
import java.nio.file.Files;
import java.nio.file.Path;
import java.util.ArrayList;
import java.util.List;
import java.util.regex.Matcher;
import java.util.regex.Pattern;
import java.util.stream.Stream;
import javax.tools.JavaCompiler;
import javax.tools.StandardJavaFileManager;
import javax.tools.ToolProvider;

/**
 * What README.md shows of the class's use answers as it says there; its argument is the path of the
 * class's source. The examples are one program: blocks that begin with "static" are its methods,
 * the others its steps, each step a line with its answer in a comment.
 */
public final class ReadmeTest {
  private static final String NAME = "ReadmeExamples";
  private static final Pattern BLOCK = Pattern.compile("(?s)```java\n(.*?)```");
  private static final Pattern STEP = Pattern.compile(
      "(?<put>int \\w+ = )?(?<call>(field\\.)?(?<name>\\w+)\\(.*\\)); *"
          + "// (?<due>NONE|true|false|-?\\d+)(:.*)?");
  private static final String MAKING = "ArcheryField field = new ArcheryField();";

  private final StringBuilder methods = new StringBuilder();
  private final StringBuilder steps = new StringBuilder();
  private final List<String> calls = new ArrayList<>();
  private final List<String> names = new ArrayList<>();
  private final List<Long> due = new ArrayList<>();

  private ReadmeTest() {
  }

  public static void main(String[] args) throws Exception {
    Path root = Path.of(args[0]).toAbsolutePath().getParent().resolve("../../..").normalize();
    String page = Files.readString(root.resolve("README.md"));
    ReadmeTest test = new ReadmeTest();
    test.read(page);
    test.compare(run(test.program()));
    test.everyCallIsShown(page);
    everyTestIsNamed(page, root.resolve("src/test/java"));
    Check.close("ReadmeTest");
  }

  private void read(String page) {
    Matcher block = BLOCK.matcher(page);
    while (block.find()) {
      if (block.group(1).startsWith("static ")) {
        methods.append(block.group(1));
      } else {
        block.group(1).lines().map(String::trim).forEach(this::readLine);
      }
    }
  }

  private void readLine(String line) {
    Matcher step = STEP.matcher(line);
    if (step.matches()) {
      String put = step.group("put") == null ? "" : step.group("put");
      steps.append(put).append("got(").append(step.group("call")).append(");\n");
      calls.add(step.group("call"));
      names.add(step.group("name"));
      due.add(number(step.group("due")));
    } else if (line.equals(MAKING)) {
      steps.append(line).append('\n');
    } else if (!line.isEmpty() && !line.startsWith("//")) {
      Check.fail("README.md shows a line without its answer: " + line);
    }
  }

  private static long number(String answer) {
    switch (answer) {
      case "NONE":
        return ArcheryField.NONE;
      case "true":
        return 1;
      case "false":
        return 0;
      default:
        return Long.parseLong(answer);
    }
  }

  private String program() {
    return "public final class " + NAME + " {\n"
        + "private static final java.util.List<Long> ANSWERS = new java.util.ArrayList<>();\n"
        + "static int got(int answer) { ANSWERS.add((long) answer); return answer; }\n"
        + "static boolean got(boolean answer) { ANSWERS.add(answer ? 1L : 0L); return answer; }\n"
        + methods + "public static java.util.List<Long> run() {\n" + steps
        + "return ANSWERS;\n}\n}\n";
  }

  private static List<?> run(String program) throws Exception {
    Path place = Files.createTempDirectory("readme");
    try {
      Path source = Files.writeString(place.resolve(NAME + ".java"), program);
      if (!compile(source, place)) {
        return List.of();
      }
      URL[] from = {place.toUri().toURL()};
      try (URLClassLoader loader = new URLClassLoader(from, ReadmeTest.class.getClassLoader())) {
        return (List<?>) loader.loadClass(NAME).getMethod("run").invoke(null);
      }
    } finally {
      try (Stream<Path> files = Files.list(place)) {
        for (Path file : files.toList()) {
          Files.delete(file);
        }
      }
      Files.delete(place);
    }
  }

  private static boolean compile(Path source, Path place) throws Exception {
    JavaCompiler compiler = ToolProvider.getSystemJavaCompiler();
    StringWriter said = new StringWriter();
    try (StandardJavaFileManager files = compiler.getStandardFileManager(null, null, null)) {
      List<String> options = List.of("-d", place.toString(), "-cp",
          System.getProperty("java.class.path"));
      boolean isFine = compiler.getTask(said, files, null, options, null,
          files.getJavaFileObjects(source)).call();
      if (!isFine) {
        Check.fail("README.md's examples do not compile: " + said);
      }
      return isFine;
    }
  }

  private void compare(List<?> answers) {
    Check.due("README.md's answers", answers.size(), due.size());
    for (int i = 0; i < Math.min(answers.size(), due.size()); i++) {
      Check.due("README.md's " + calls.get(i), (Long) answers.get(i), due.get(i));
    }
  }

  private void everyCallIsShown(String page) {
    for (Method method : ArcheryField.class.getDeclaredMethods()) {
      if (Modifier.isPublic(method.getModifiers())) {
        String name = method.getName();
        Check.due("README.md has an example of " + name, names.contains(name), true);
        Matcher row = Pattern.compile("(?m)^\\| `" + name + "\\(([a-z, ]*)\\)` \\|").matcher(page);
        boolean isListed = row.find();
        Check.due("README.md's list has " + name, isListed, true);
        if (isListed) {
          int told = row.group(1).isEmpty() ? 0 : row.group(1).split(", ").length;
          Check.due("README.md's arguments of " + name, told, method.getParameterCount());
        }
      }
    }
  }

  private static void everyTestIsNamed(String page, Path tests) throws Exception {
    List<String> there = new ArrayList<>();
    try (Stream<Path> files = Files.list(tests)) {
      files.map(file -> file.getFileName().toString()).filter(name -> name.endsWith("Test.java"))
          .forEach(name -> there.add(name.substring(0, name.length() - ".java".length())));
    }
    for (String name : there) {
      Check.due("README.md names " + name, page.contains("`" + name + "`"), true);
    }
    Matcher named = Pattern.compile("\\b[A-Z]\\w+Test\\b").matcher(page);
    while (named.find()) {
      Check.due("README.md's " + named.group() + " is there", there.contains(named.group()), true);
    }
  }
}

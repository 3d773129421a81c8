import java.io.IOException;
import java.lang.reflect.Method;
import java.lang.reflect.Modifier;
import java.nio.file.Files;
import java.nio.file.Path;
import java.util.Arrays;
import java.util.List;
import java.util.regex.Matcher;
import java.util.regex.Pattern;
import java.util.stream.Stream;

/** What README.md tells of the class holds: its example, and that it names every call and every test. */
public final class ReadmeTest {
  private static final Check CHECK = new Check("ReadmeTest");
  private static final Pattern EXAMPLE = Pattern.compile("(?s)```java\n(.*?)```");
  private static final Pattern CALL = Pattern.compile("x\\.(\\w+)\\(([-\\d, ]*)\\);");

  public static void main(String[] args) throws IOException, ReflectiveOperationException {
    String readme = Files.readString(Path.of("README.md"));
    example(readme);
    namesCalls(readme);
    namesTests(readme);
    CHECK.end();
  }

  private static void holds(String what, boolean is) {
    CHECK.due(what, is ? 1 : 0, 1);
  }

  private static void example(String readme) throws ReflectiveOperationException {
    Matcher block = EXAMPLE.matcher(readme);
    if (!block.find()) {
      holds("there is an example", false);
      return;
    }
    String[] lines = block.group(1).split("\n");
    CHECK.due("the first line makes an object", lines[0].compareTo("HeapMover x = new HeapMover();"), 0);
    HeapMover mover = new HeapMover();
    for (String line : Arrays.asList(lines).subList(1, lines.length)) {
      answersOf(mover, line);
    }
  }

  /** A line is calls, and behind // their answers, then perhaps a colon and words. */
  private static void answersOf(HeapMover mover, String line) throws ReflectiveOperationException {
    String[] parts = line.split("//");
    holds("answers stand beside: " + line, parts.length == 2);
    List<Integer> answers = numbers(parts[1].replaceAll(":.*", ""));
    Matcher calls = CALL.matcher(parts[0]);
    int made = 0;
    while (calls.find() && made < answers.size()) {
      CHECK.due(calls.group(), call(mover, calls.group(1), numbers(calls.group(2))), answers.get(made));
      made++;
    }
    CHECK.due("answers beside: " + line, answers.size(), parts[0].split("x\\.", -1).length - 1);
    CHECK.due("calls made: " + line, made, answers.size());
  }

  private static List<Integer> numbers(String listed) {
    return Stream.of(listed.split(",")).map(String::trim).filter(text -> !text.isEmpty()).map(Integer::valueOf).toList();
  }

  private static int call(HeapMover mover, String name, List<Integer> arguments) throws ReflectiveOperationException {
    Class<?>[] types = new Class<?>[arguments.size()];
    Arrays.fill(types, int.class);
    return (Integer) HeapMover.class.getMethod(name, types).invoke(mover, arguments.toArray());
  }

  private static void namesCalls(String readme) {
    for (Method method : HeapMover.class.getDeclaredMethods()) {
      if (Modifier.isPublic(method.getModifiers())) {
        CHECK.due(method.getName() + "'s arguments in the table", listedArguments(readme, method.getName()),
            method.getParameterCount());
      }
    }
  }

  /** How many arguments the table gives a call; -1: it does not name the call. */
  private static int listedArguments(String readme, String name) {
    Matcher named = Pattern.compile("(?m)^\\| .*`" + name + "\\(([^)]*)\\)`").matcher(readme);
    if (!named.find()) {
      return -1;
    }
    return named.group(1).isEmpty() ? 0 : named.group(1).split(",").length;
  }

  private static void namesTests(String readme) throws IOException {
    try (Stream<Path> files = Files.list(Path.of("src/test/java"))) {
      for (Path file : files.toList()) {
        String name = file.getFileName().toString().replace(".java", "");
        holds(name + " is named", readme.contains("`" + name + "`"));
      }
    }
  }
}

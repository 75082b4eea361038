import java.io.IOException;
import java.lang.reflect.InvocationTargetException;
import java.lang.reflect.Method;
import java.nio.file.DirectoryStream;
import java.nio.file.Files;
import java.nio.file.Path;
import java.util.ArrayList;
import java.util.HashMap;
import java.util.List;
import java.util.Map;
import java.util.Set;
import java.util.TreeSet;
import java.util.regex.Matcher;
import java.util.regex.Pattern;

/** README.md: the calls that it shows answer as it says, and it names every file of tests. */
public final class ReadmeTest {
  /** A call, perhaps kept in a variable, and the first words of what is said behind it. */
  private static final Pattern CALL =
      Pattern.compile("(?:(\\w+) (\\w+) = )?m\\.(\\w+)\\((.*)\\); +// (throws )?([\\w.-]*\\w).*");

  private final ProtocolMachine machine = new ProtocolMachine();
  private final Map<String, Integer> variables = new HashMap<>();
  private final Set<String> called = new TreeSet<>();

  public static void main(String[] args) throws IOException {
    String readme = Files.readString(Path.of("README.md"));
    ReadmeTest test = new ReadmeTest();
    for (String line : linesOfCode(readme)) {
      test.look(line);
    }
    test.showsEachPart();
    namesEveryTest(readme);
    Check.end();
  }

  /** What stands in the one block of Java, without empty lines and lines of comment. */
  private static List<String> linesOfCode(String readme) {
    String[] parts = readme.split("```(java)?\n");
    Check.due("README.md: parts around one block of Java", parts.length, 3);
    List<String> lines = new ArrayList<>();
    for (String line : parts.length == 3 ? parts[1].split("\n") : new String[0]) {
      if (!line.isBlank() && !line.startsWith("//")) {
        lines.add(line);
      }
    }
    String first = lines.isEmpty() ? "" : lines.remove(0);
    Check.due("README.md: first", first, "ProtocolMachine m = new ProtocolMachine();");
    return lines;
  }

  private void look(String line) {
    Matcher call = CALL.matcher(line);
    if (!call.matches()) {
      Check.due("README.md: " + line, "no call with its answer", "a call with its answer");
      return;
    }
    Object[] arguments = arguments(call.group(4));
    Method method = method(call.group(3), arguments.length);
    if (method == null) {
      Check.due("README.md: " + line, "no such method", "a method");
      return;
    }
    called.add(method.getName());
    Object answer = answer(method, arguments);
    String want = (call.group(5) == null ? "" : "throws ") + call.group(6);
    Check.due("README.md: " + line, String.valueOf(answer), want);
    if (call.group(2) != null) {
      Check.due("README.md: type in " + line, call.group(1), method.getReturnType().getName());
      variables.put(call.group(2), answer instanceof Integer i ? i : -1);
    }
  }

  private Object[] arguments(String text) {
    if (text.isEmpty()) {
      return new Object[0];
    }
    String[] words = text.split(", ");
    Object[] arguments = new Object[words.length];
    for (int i = 0; i < words.length; i++) {
      Integer kept = variables.get(words[i]);
      arguments[i] = kept == null ? Integer.valueOf(words[i]) : kept;
    }
    return arguments;
  }

  private static Method method(String name, int parameters) {
    for (Method m : ProtocolMachine.class.getMethods()) {
      if (m.getName().equals(name) && m.getParameterCount() == parameters) {
        return m;
      }
    }
    return null;
  }

  private Object answer(Method method, Object[] arguments) {
    try {
      return method.invoke(machine, arguments);
    } catch (InvocationTargetException e) {
      return "throws " + e.getCause().getClass().getSimpleName();
    } catch (IllegalAccessException e) {
      return "no access";
    }
  }

  /** Without this, a block that lost its lines would pass. */
  private void showsEachPart() {
    for (String name : new String[] {"addState", "addTransition", "happen", "advance", "compile"}) {
      Check.due("README.md: calls " + name, called.contains(name), true);
    }
  }

  private static void namesEveryTest(String readme) throws IOException {
    Set<String> there = new TreeSet<>();
    try (DirectoryStream<Path> files = Files.newDirectoryStream(Path.of("src/test/java"))) {
      for (Path file : files) {
        there.add(file.getFileName().toString().replace(".java", ""));
      }
    }
    Set<String> named = new TreeSet<>();
    Matcher name = Pattern.compile("`(\\w+Test|Check|Model)`").matcher(readme);
    while (name.find()) {
      named.add(name.group(1));
    }
    Check.due("README.md: the tests that it names", named, there);
  }
}

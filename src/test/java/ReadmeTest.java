import java.lang.reflect.InvocationTargetException;
import java.lang.reflect.Method;
import java.nio.file.Files;
import java.nio.file.Path;
import java.util.HashMap;
import java.util.Map;
import java.util.Set;
import java.util.TreeSet;
import java.util.regex.Matcher;
import java.util.regex.Pattern;

/** Makes the calls of README.md's examples, one after another, and compares what they say behind them. */
public final class ReadmeTest {
  private static final Pattern BLOCK = Pattern.compile("```java\n(.*?)```", Pattern.DOTALL);
  private static final Pattern CALL =
      Pattern.compile("(?:int (\\w+) = )?x\\.(\\w+)\\(([^)]*)\\);(?: +// (.*))?");
  private static final Pattern ANSWER = Pattern.compile("(throws \\w+|-?\\d+)\\b.*");

  private final FlashFiles x = new FlashFiles();
  private final Map<String, Integer> variables = new HashMap<>();
  private final Set<String> called = new TreeSet<>();
  private int wrong;

  public static void main(String[] args) throws Exception {
    ReadmeTest test = new ReadmeTest();
    String readme = Files.readString(Path.of("README.md"));
    Matcher block = BLOCK.matcher(readme);
    while (block.find()) {
      for (String line : block.group(1).split("\n")) {
        test.line(line);
      }
    }
    test.expect(test.called.size() == 24, "each call has an example, only these have: " + test.called);
    test.expect(readme.contains("\n.ci/run\n"), "it tells the command that runs all tests");
    System.out.println(test.wrong == 0 ? "ReadmeTest: all as due" : "ReadmeTest: " + test.wrong + " wrong");
    System.exit(test.wrong == 0 ? 0 : 1);
  }

  private void expect(boolean right, String what) {
    if (!right) {
      wrong++;
      System.out.println("not so: " + what);
    }
  }

  private void line(String line) throws Exception {
    if (line.equals("FlashFiles x = new FlashFiles();")) {
      return;
    }
    Matcher call = CALL.matcher(line);
    if (!call.matches()) {
      expect(false, "an example's line is a call: " + line);
      return;
    }
    String got = answer(call.group(2), call.group(3));
    if (call.group(1) != null) {
      variables.put(call.group(1), Integer.valueOf(got));
    }
    Matcher said = ANSWER.matcher(call.group(4) == null ? "" : call.group(4));
    expect(got.equals(said.matches() ? said.group(1) : "nothing"), line + " - it answers " + got);
  }

  private String answer(String name, String given) throws Exception {
    called.add(name);
    String[] words = given.isEmpty() ? new String[0] : given.split(", ");
    Object[] numbers = new Object[words.length];
    Class<?>[] types = new Class<?>[words.length];
    for (int i = 0; i < words.length; i++) {
      numbers[i] = variables.containsKey(words[i]) ? variables.get(words[i]) : Integer.decode(words[i]);
      types[i] = int.class;
    }
    Method method = FlashFiles.class.getMethod(name, types);
    try {
      Object answer = method.invoke(x, numbers);
      return answer == null ? "nothing" : answer.toString();
    } catch (InvocationTargetException e) {
      return "throws " + e.getCause().getClass().getSimpleName();
    }
  }
}

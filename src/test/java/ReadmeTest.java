import java.lang.reflect.Method;
import java.lang.reflect.Modifier;
import java.nio.file.Files;
import java.nio.file.Path;
import java.util.ArrayList;
import java.util.HashMap;
import java.util.List;
import java.util.Map;
import java.util.TreeSet;
import java.util.regex.Matcher;
import java.util.regex.Pattern;
import java.util.stream.Stream;

/**
 * README.md: each line of its Java blocks is of a form that is known here, and is run; each call
 * has its answer behind it; each call of the face is shown; each test is told of.
 */
public final class ReadmeTest {
  private static final Pattern MADE = Pattern.compile("CloudHerd (\\w+) = new CloudHerd\\(\\);");
  private static final Pattern TEXT =
      Pattern.compile("for \\(char letter : \"([^\"]*)\"\\.toCharArray\\(\\)\\) \\{");
  private static final Pattern FED = Pattern.compile("    (\\w+)\\.feed\\(letter\\);");
  private static final Pattern CALL =
      Pattern.compile("(\\w+)\\.(\\w+)\\(([-0-9, ]*)\\); +// (-?[0-9]+|[A-Z]+)(: .+)?");
  private static final Map<String, CloudHerd> objects = new HashMap<>();
  private static final Map<String, Integer> calls = new HashMap<>();
  private static final TreeSet<String> shown = new TreeSet<>();
  private static String text = "";

  public static void main(String[] args) throws Exception {
    Path root = Path.of(System.getProperty("root", "."));
    List<String> page = Files.readAllLines(root.resolve("README.md"));
    for (List<String> block : blocks(page)) {
      for (String line : block) {
        Due.within(line);
        run(line);
      }
      objects.clear();
    }
    Due.within("");
    for (int n : calls.values()) {
      Due.is("at most 512 calls of an object", n <= 512 ? 1 : 0, 1);
    }
    showsTheFace(String.join("\n", page));
    tellsOfTests(root, String.join("\n", page));
    Due.end("ReadmeTest");
  }

  /** Each stands by itself: what one makes the next does not know. */
  private static List<List<String>> blocks(List<String> page) {
    List<List<String>> all = new ArrayList<>();
    boolean within = false;
    for (String line : page) {
      if (line.equals("```java")) {
        all.add(new ArrayList<>());
        within = true;
      } else if (line.startsWith("```")) {
        within = false;
      } else if (within) {
        all.get(all.size() - 1).add(line);
      }
    }
    Due.is("blocks of Java", all.isEmpty() ? 1 : 0, 0);
    return all;
  }

  private static void run(String line) throws Exception {
    Matcher made = MADE.matcher(line);
    Matcher told = TEXT.matcher(line);
    Matcher fed = FED.matcher(line);
    Matcher call = CALL.matcher(line);
    if (made.matches()) {
      Due.is("a name that no other block has", calls.put(made.group(1), 0) == null ? 1 : 0, 1);
      objects.put(made.group(1), new CloudHerd());
    } else if (told.matches()) {
      text = told.group(1);
    } else if (fed.matches()) {
      for (int k = 0; k < text.length(); k++) {
        Due.is("fed", object(fed.group(1)).feed(text.charAt(k)), k + 1);
      }
    } else if (call.matches()) {
      Due.is("the call", answer(call), due(call.group(4)));
    } else {
      Due.is("of a known form", line.equals("}") ? 1 : 0, 1);
    }
  }

  private static CloudHerd object(String name) {
    if (!objects.containsKey(name)) {
      throw new IllegalArgumentException("not made in its block: " + name);
    }
    calls.merge(name, 1, Integer::sum);
    return objects.get(name);
  }

  private static long answer(Matcher call) throws Exception {
    String[] numbers = call.group(3).isEmpty() ? new String[0] : call.group(3).split(", ");
    Class<?>[] types = new Class<?>[numbers.length];
    Object[] values = new Object[numbers.length];
    for (int k = 0; k < numbers.length; k++) {
      types[k] = int.class;
      values[k] = Integer.parseInt(numbers[k]);
    }
    shown.add(call.group(2));
    Method method = CloudHerd.class.getMethod(call.group(2), types);
    return ((Number) method.invoke(object(call.group(1)), values)).longValue();
  }

  private static long due(String told) throws Exception {
    if (Character.isLetter(told.charAt(0))) {
      return CloudHerd.class.getField(told).getInt(null);
    }
    return Long.parseLong(told);
  }

  /** Each call is shown with an answer, and stands in a table with as many numbers as it takes. */
  private static void showsTheFace(String page) throws Exception {
    for (Method m : CloudHerd.class.getDeclaredMethods()) {
      if (Modifier.isPublic(m.getModifiers())) {
        Due.is(m.getName() + " is shown", shown.contains(m.getName()) ? 1 : 0, 1);
        Matcher row = Pattern.compile("(?m)^\\| `" + m.getName() + "\\(([a-zA-Z, ]*)\\)` \\|")
            .matcher(page);
        boolean there = row.find();
        Due.is(m.getName() + " is in a table", there ? 1 : 0, 1);
        String numbers = there ? row.group(1) : "";
        Due.is("numbers of " + m.getName(),
            numbers.isEmpty() ? 0 : numbers.split(", ").length, m.getParameterCount());
      }
    }
    Matcher constant = Pattern.compile("`CloudHerd\\.([A-Z]+)` = (-[0-9]+)").matcher(page);
    TreeSet<String> names = new TreeSet<>();
    while (constant.find()) {
      names.add(constant.group(1));
      Due.is(constant.group(1), Long.parseLong(constant.group(2)), due(constant.group(1)));
    }
    Due.same("constants", names.toString(), "[BAD, FULL, NONE, STATE]");
  }

  private static void tellsOfTests(Path root, String page) throws Exception {
    TreeSet<String> told = new TreeSet<>();
    Matcher row = Pattern.compile("(?m)^\\| ([A-Z]\\w+Test) \\|").matcher(page);
    while (row.find()) {
      told.add(row.group(1));
    }
    TreeSet<String> there = new TreeSet<>();
    try (Stream<Path> files = Files.list(root.resolve("src/test/java"))) {
      files.map(file -> file.getFileName().toString()).filter(name -> name.endsWith("Test.java"))
          .forEach(name -> there.add(name.substring(0, name.length() - 5)));
    }
    Due.same("tests", told.toString(), there.toString());
    Due.is(".ci/run", Files.isExecutable(root.resolve(".ci/run")) ? 1 : 0, 1);
  }
}

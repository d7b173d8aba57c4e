import java.lang.reflect.Array;
import java.lang.reflect.Constructor;
import java.lang.reflect.Field;
import java.lang.reflect.Method;
import java.lang.reflect.Modifier;
import java.nio.charset.StandardCharsets;
import java.nio.file.Files;
import java.nio.file.Path;
import java.util.ArrayList;
import java.util.IdentityHashMap;
import java.util.List;
import java.util.Map;
import java.util.TreeSet;
import java.util.regex.Matcher;
import java.util.regex.Pattern;

/** The face of the class, what can be seen of LANGUAGE.md, and that no call throws. */
public final class FaceTest {
  private static final String FACE = "row(int, int, int); set(int, int, int);"
      + " copy(int, int, int, int, int); drop(int); feed(int); herd(); fault(); undo(); hours(int);"
      + " lift(int, int); rains(int, int); cloud(int, int); cell(int, int); wind(int, int);"
      + " ahead(int, int, int); earned(int); knot(int, int); wetHay(int, int); soon(int, int);"
      + " heights(int, int, int); shade(int, int); dew(int, int, int);"
      + " lost(int, int, int, int, int, int); kite(int, int, int, int);"
      + " tuesday(int, int, int, int); guards(int, int); guardsValue(int, int, int); dues(int);"
      + " image(int); restore(int); kind(int); as(int, int); ask(int, int); trace(int);"
      + " count(int); status()";
  private static final String[] NOT_THERE = {"throw", "throws", "try", "catch", "finally",
    "synchronized", "assert", "import", "package", "volatile", "native", "strictfp", "protected",
    "instanceof", "->", "::", "@"};

  public static void main(String[] args) throws Exception {
    hasTheFace();
    hasNoOtherNames();
    keepsToTheLanguage();
    isSmall();
    makesNothingLater();
    neverThrows();
    Due.end("FaceTest");
  }

  private static void hasTheFace() {
    Due.is("public and final", CloudHerd.class.getModifiers(), Modifier.PUBLIC | Modifier.FINAL);
    TreeSet<String> due = new TreeSet<>(List.of(FACE.split("; ")));
    TreeSet<String> got = new TreeSet<>();
    for (Method m : CloudHerd.class.getDeclaredMethods()) {
      if (!Modifier.isPrivate(m.getModifiers())) {
        StringBuilder face = new StringBuilder(m.getName()).append('(');
        for (Class<?> type : m.getParameterTypes()) {
          face.append(face.charAt(face.length() - 1) == '(' ? "" : ", ").append(type);
        }
        got.add(face.append(')').toString());
        Due.is(m.getName() + " is public", m.getModifiers(), Modifier.PUBLIC);
        boolean wide = m.getName().equals("guardsValue");
        Due.is(m.getName() + " gives", m.getReturnType() == (wide ? long.class : int.class) ? 1 : 0, 1);
      }
    }
    Due.same("methods", got.toString(), due.toString());
    TreeSet<String> constants = new TreeSet<>();
    for (Field f : CloudHerd.class.getDeclaredFields()) {
      if (!Modifier.isPrivate(f.getModifiers())) {
        constants.add(f.getName());
        Due.is(f.getName(), f.getModifiers(), Modifier.PUBLIC | Modifier.STATIC | Modifier.FINAL);
      }
      Due.is(f.getName() + " is no state of all", !Modifier.isStatic(f.getModifiers())
          || Modifier.isFinal(f.getModifiers()) ? 1 : 0, 1);
    }
    Due.same("constants", constants.toString(), "[BAD, FULL, NONE, STATE]");
    Constructor<?>[] made = CloudHerd.class.getDeclaredConstructors();
    Due.is("constructors", made.length, 1);
    Due.is("it is public", made[0].getModifiers(), Modifier.PUBLIC);
    Due.is("without numbers", made[0].getParameterCount(), 0);
    Due.is("NONE", CloudHerd.NONE, -1000000);
    Due.is("BAD", CloudHerd.BAD, -1000001);
    Due.is("STATE", CloudHerd.STATE, -1000002);
    Due.is("FULL", CloudHerd.FULL, -1000003);
  }

  private static void hasNoOtherNames() {
    TreeSet<String> open = new TreeSet<>();
    for (Method m : CloudHerd.class.getMethods()) {
      open.add(m.getName());
    }
    List<Class<?>> all = new ArrayList<>(List.of(CloudHerd.class.getDeclaredClasses()));
    Due.is("classes", all.size() <= 12 ? 1 : 0, 1);
    for (Class<?> c : all) {
      Due.is(c + " is static", Modifier.isStatic(c.getModifiers()) ? 1 : 0, 1);
      Due.is(c + " is closed", Modifier.isPublic(c.getModifiers()) ? 1 : 0, 0);
    }
    all.add(CloudHerd.class);
    for (Class<?> c : all) {
      int fields = 0;
      for (Field f : c.getDeclaredFields()) {
        fields += Modifier.isStatic(f.getModifiers()) ? 0 : 1;
      }
      Due.is("fields of " + c, fields <= 20 ? 1 : 0, 1);
      for (Method m : c.getDeclaredMethods()) {
        Due.is("numbers of " + m.getName(), m.getParameterCount() <= 7 ? 1 : 0, 1);
        boolean own = c == CloudHerd.class && Modifier.isPublic(m.getModifiers());
        Due.is(c + " " + m.getName(), own || !open.contains(m.getName()) ? 1 : 0, 1);
      }
    }
  }

  private static void keepsToTheLanguage() throws Exception {
    String all = Files.readString(Path.of(System.getProperty("source",
        "src/main/java/CloudHerd.java")), StandardCharsets.ISO_8859_1);
    String code = all.replaceAll("(?s)/\\*.*?\\*/", " ").replaceAll("//[^\n]*", " ");
    for (String word : NOT_THERE) {
      String edge = Character.isLetter(word.charAt(0)) ? "\\b" : "";
      Due.is(word, Pattern.compile(edge + word + edge).matcher(code).find() ? 1 : 0, 0);
    }
    for (int k = 0; k < all.length(); k++) {
      if (all.charAt(k) > 126) {
        Due.is("sign at " + k, all.charAt(k), 126);
      }
    }
    Due.is("loops without a counter", Pattern.compile("\\b(while|do)\\b").matcher(code).find() ? 1 : 0, 0);
    Matcher method = Pattern.compile("(?m)^( {4}| {8})[a-z][^=;]*\\) \\{$").matcher(code);
    while (method.find()) {
      int end = code.indexOf("\n" + method.group(1) + "}", method.end());
      int lines = code.substring(method.start(), end).split("\n").length;
      Due.is("lines of " + method.group().trim(), lines <= 60 ? 1 : 0, 1);
    }
  }

  /** Objects and arrays, and their fields and elements, that stand behind one. */
  private static int[] room(Object root) throws Exception {
    Map<Object, Boolean> seen = new IdentityHashMap<>();
    List<Object> next = new ArrayList<>(List.of(root));
    int parts = 0;
    while (!next.isEmpty()) {
      Object one = next.remove(next.size() - 1);
      if (seen.put(one, true) != null) {
        continue;
      }
      if (one.getClass().isArray()) {
        parts += Array.getLength(one);
        for (int k = 0; k < Array.getLength(one); k++) {
          if (!one.getClass().getComponentType().isPrimitive()) {
            next.add(Array.get(one, k));
          }
        }
        continue;
      }
      for (Field f : one.getClass().getDeclaredFields()) {
        if (!Modifier.isStatic(f.getModifiers())) {
          parts++;
          f.setAccessible(true);
          if (!f.getType().isPrimitive()) {
            next.add(f.get(one));
          }
        }
      }
    }
    return new int[] {seen.size(), parts};
  }

  private static void isSmall() throws Exception {
    int[] room = room(new CloudHerd());
    System.out.println("one object: " + room[0] + " objects and arrays, " + room[1]
        + " fields and elements");
    Due.is("objects", room[0] <= 80 ? 1 : 0, 1);
    Due.is("elements", room[1] <= 1500 ? 1 : 0, 1);
  }

  /** No call makes anything: 'new' stands in constructors and fields alone. */
  private static void makesNothingLater() throws Exception {
    String all = Files.readString(Path.of(System.getProperty("source",
        "src/main/java/CloudHerd.java")), StandardCharsets.ISO_8859_1);
    Matcher made = Pattern.compile("(?m)^.*\\bnew\\b [A-Za-z]+[\\[(].*$").matcher(all);
    int lines = 0;
    while (made.find()) {
      lines++;
      boolean field = made.group().matches(" +(private )?final .*");
      boolean part = made.group().matches(" +(rows|images|clouds)\\[k\\] = new [A-Z][a-z]+\\(\\);");
      Due.is(made.group(), field || part ? 1 : 0, 1);
    }
    Due.is("some are made", lines > 0 ? 1 : 0, 1);
  }

  private static void neverThrows() throws Exception {
    int[] values = {Integer.MIN_VALUE, -1000000, -2, -1, 0, 1, 2, 5, 31, 32, 60, 61, 256,
      1000000, Integer.MAX_VALUE - 1, Integer.MAX_VALUE};
    CloudHerd none = new CloudHerd();
    CloudHerd some = Due.told("k9,9;lewsnoe;unsweoo;f0;h1;m2;f3;a0,20;b1,20;g2,20;y3,20;p4,9;");
    Due.fill(some, 0, 2, 5, 5, 5, 5, 5, 5, 5, 5, 5, 5, 5, 5, 5);
    for (CloudHerd x : List.of(none, some)) {
      for (Method m : CloudHerd.class.getDeclaredMethods()) {
        if (Modifier.isPublic(m.getModifiers())) {
          throwAll(x, m, values);
        }
      }
    }
  }

  private static void throwAll(CloudHerd x, Method m, int[] values) throws Exception {
    int n = m.getParameterCount();
    Object[] args = new Object[n];
    java.util.Random random = new java.util.Random(n);
    for (int round = 0; round < 2000; round++) {
      for (int k = 0; k < n; k++) {
        args[k] = random.nextInt(3) != 0 ? random.nextInt(3) : values[random.nextInt(values.length)];
      }
      try {
        m.invoke(x, args);
        Due.is("call", 0, 0);
      } catch (java.lang.reflect.InvocationTargetException e) {
        Due.is(m.getName() + java.util.Arrays.toString(args) + " threw " + e.getCause(), 1, 0);
      }
    }
  }
}

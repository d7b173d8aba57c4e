import java.lang.reflect.InvocationTargetException;
import java.lang.reflect.Method;
import java.util.Set;
import java.util.TreeMap;
import java.util.TreeSet;

/**
 * What the tests of edges share. In such a test each method without arguments stands for one
 * sentence of the document alone: on the last number that is as told, and on the first that is not.
 */
final class Edges {
  static final int NONE = CloudHerd.NONE, BAD = CloudHerd.BAD, STATE = CloudHerd.STATE;
  static final int FULL = CloudHerd.FULL;
  static final int NULL = -1000011, PLACE = -1000012, KIND = -1000013;
  static final int SIZE = -1000014, STORE = -1000015;
  static final int LEAST = Integer.MIN_VALUE, MOST = Integer.MAX_VALUE;
  /** A law, and two winds that do not blow. */
  static final String CALM = "k1,0;loooooo;uoooooo;";

  private Edges() { }

  interface Call {
    long on(CloudHerd x, int v);
  }

  interface Fresh {
    CloudHerd made();
  }

  /** Runs them all, by name (pNN_..: of promise NN); each of the promises told has one. */
  static void run(Class<?> test, int... told) throws Exception {
    TreeMap<String, Method> all = new TreeMap<>();
    Set<String> promises = new TreeSet<>();
    for (Method m : test.getDeclaredMethods()) {
      if (m.getParameterCount() == 0 && !m.isSynthetic() && m.getReturnType() == void.class) {
        all.put(m.getName(), m);
        promises.add(m.getName().substring(0, 3));
      }
    }
    for (Method m : all.values()) {
      Due.within(m.getName());
      m.setAccessible(true);
      try {
        m.invoke(null);
      } catch (InvocationTargetException e) {
        Due.is("threw " + e.getCause(), 1, 0);
      }
    }
    Due.within("");
    for (int k : told) {
      Due.is("a test of promise " + k, promises.contains(k < 10 ? "p0" + k : "p" + k) ? 1 : 0, 1);
    }
    Due.end(test.getName() + " (" + all.size() + " sentences)");
  }

  /**
   * Five clouds, and eight rows with 12 items of which five are 5; and something of all that a
   * refused call could change: acts, milk, images, a byte, a fault, a finding, a trace.
   */
  static CloudHerd busy() {
    CloudHerd x = Due.told("k2,1;leooooo;uoooooo;f1;h2;m3;a1,9;p2,9;a3,9;p4,9;a5,9;");
    x.herd();
    for (int row = 0; row < 8; row++) {
      x.row(row, 0, 12);
      for (int k = 0; k < 5; k++) {
        x.set(row, k, 5);
      }
    }
    x.hours(1);
    x.rains(1, 0);
    x.image(0);
    x.image(1);
    x.ask(1, 0);
    x.feed('k');
    x.set(0, 12, 1);
    return x;
  }

  /** All that can be seen, with the latest fault and the trace. */
  static String whole(CloudHerd x) {
    StringBuilder all = new StringBuilder(Due.seen(x));
    all.append(" fault ").append(x.fault()).append(" trace");
    for (int k = 0; k < 7; k++) {
      all.append(' ').append(x.trace(k));
    }
    return all.toString();
  }

  /** A number from least to most is as told; one beyond is BAD, and changes nothing. */
  static void takes(String what, int least, int most, Call call) {
    takes(what, Edges::busy, least, most, call);
  }

  static void takes(String what, Fresh fresh, int least, int most, Call call) {
    for (int v : new int[] {least, most}) {
      Due.is(what + " " + v + " is BAD", call.on(fresh.made(), v) == BAD ? 1 : 0, 0);
    }
    for (int v : new int[] {least - 1, most + 1, LEAST, MOST}) {
      refuses(what + " " + v, fresh.made(), BAD, v, call);
    }
  }

  /** Clouds are numbered from 0 to how many there are, less 1. */
  static void takesClouds(Call call) {
    takes("of five clouds", 0, 4, call);
    takes("of one cloud", () -> withRow(CALM + "a0,9;"), 0, 0, call);
    refuses("of no cloud", withRow(CALM), BAD, 0, call);
    refuses("of no herd", new CloudHerd(), BAD, 0, call);
  }

  static CloudHerd withRow(String text) {
    CloudHerd x = Due.told(text);
    x.row(0, 0, 12);
    return x;
  }

  /** All of a call is refused so, and nothing changes by it. */
  static void refuses(String what, CloudHerd x, int due, int v, Call call) {
    String before = whole(x);
    Due.is(what, call.on(x, v), due);
    Due.same(what + " changes nothing", whole(x), before);
  }

  static void refuses(String what, CloudHerd x, int due, Call call) {
    refuses(what, x, due, 0, call);
  }

  /** A finding changes status(), and nothing else: status is made the same ahead and behind. */
  static void finds(String what, CloudHerd x, int due, Call call) {
    x.set(0, MOST, 0);
    String before = whole(x);
    Due.is(what, call.on(x, 0), due);
    Due.is("status of " + what, x.status(), -1000010 - due);
    x.set(0, MOST, 0);
    Due.same(what + " changes nothing", whole(x), before);
  }

  /** Of busy() 12 items: from 0 on to where n of them end just at the end. */
  static void takesPlaces(String what, int n, Call call) {
    for (int i : new int[] {0, 12 - n}) {
      CloudHerd x = filled();
      Due.is(what + " from " + i + " on is found", call.on(x, i) <= -1000010 ? 1 : 0, 0);
      Due.is("status of " + what + " from " + i, x.status(), 0);
    }
    for (int i : new int[] {-1, 13 - n, LEAST, MOST}) {
      finds(what + " from " + i + " on", filled(), PLACE, (x, v) -> call.on(x, i));
    }
  }

  /** As busy(), but all items of row 0 are 5. */
  static CloudHerd filled() {
    CloudHerd x = busy();
    for (int k = 5; k < 12; k++) {
      x.set(0, k, 5);
    }
    x.set(0, 12, 1);
    return x;
  }

  /** An item of 0 to 31, as a fog (cloud 0) was over such a cell; else NONE. */
  static int item(CloudHerd x, int row, int i) {
    return x.lost(0, 0, row, i, 1, 1);
  }
}

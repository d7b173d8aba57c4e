/** What the tests share: answers that are due, and herds told by a text. */
final class Due {
  private static int right = 0;
  private static int wrong = 0;
  private static String part = "";

  private Due() { }

  /** What the next answers stand for; told ahead of those that are not as due. */
  static void within(String name) {
    part = name.isEmpty() ? "" : name + ": ";
  }

  static void is(String call, long got, long want) {
    if (got == want) {
      right++;
    } else {
      wrong++;
      System.out.println(part + call + " answered " + got + ", due is " + want);
    }
  }

  static int tell(CloudHerd herd, String text) {
    for (int k = 0; k < text.length(); k++) {
      herd.feed(text.charAt(k));
    }
    return herd.herd();
  }

  static CloudHerd told(String text) {
    CloudHerd herd = new CloudHerd();
    if (tell(herd, text) < 0) {
      throw new IllegalArgumentException("this text has a fault: " + text);
    }
    return herd;
  }

  static void fill(CloudHerd herd, int row, int lane, int... items) {
    herd.row(row, lane, items.length);
    for (int k = 0; k < items.length; k++) {
      herd.set(row, k, items[k]);
    }
  }

  /** What acts can change: an object is good for 512 calls, and seen() takes many. */
  static String brief(CloudHerd herd) {
    StringBuilder all = new StringBuilder();
    for (int what = 0; what <= 8; what++) {
      all.append(herd.count(what)).append(' ');
    }
    for (int cloud = 0; cloud < herd.count(1); cloud++) {
      all.append('/').append(herd.kind(cloud));
      for (int what = 0; what <= 4; what++) {
        all.append(' ').append(herd.cloud(cloud, what));
      }
    }
    return all.toString();
  }

  /** All of a herd that calls can see and that is not foretold. */
  static String seen(CloudHerd herd) {
    StringBuilder all = new StringBuilder(brief(herd));
    for (int cell = 0; cell < 32; cell++) {
      all.append(' ').append(herd.cell(cell, 0));
    }
    for (int way = 0; way < 12; way++) {
      all.append(' ').append(herd.wind(way / 6, way % 6));
    }
    return all.append(' ').append(herd.earned(40)).append(' ').append(herd.status()).toString();
  }

  static void same(String what, String got, String want) {
    is(what, got.equals(want) ? 1 : 0, 1);
    if (!got.equals(want)) {
      System.out.println("  was " + got + "\n  due " + want);
    }
  }

  static void end(String name) {
    System.out.println(name + ": " + right + " answers as due, " + wrong + " not");
    if (wrong != 0 || right == 0) {
      System.exit(1);
    }
  }
}

import java.util.ArrayList;
import java.util.Arrays;
import java.util.List;
import java.util.Random;
import java.util.TreeSet;

/**
 * Runs of random calls, each answered by CloudHerd and by a second telling of the document: whole
 * states that are never changed but copied, kinds as Java classes, faults found token by token.
 */
public final class ModelTest {
  // an object is good for 512 calls; telling a herd takes the most of them at once
  private static final int RUNS = 2000, CALLS = 512, MOST_AT_ONCE = 125;
  private static final int NONE = -1000000, BAD = -1000001, STATE = -1000002, FULL = -1000003;

  private final Random random;
  private final CloudHerd herd = new CloudHerd();
  private final Model model = new Model();
  private final List<String> calls = new ArrayList<>();

  private ModelTest(long seed) {
    random = new Random(seed);
  }

  public static void main(String[] args) {
    for (int seed = 0; seed < RUNS; seed++) {
      new ModelTest(seed).run(seed);
    }
    Due.end("ModelTest");
  }

  private void run(int seed) {
    while (calls.size() + MOST_AT_ONCE <= CALLS) {
      boolean right;
      if (random.nextInt(model.now == null ? 6 : 120) == 0) {
        right = feedText();
      } else {
        right = callOne();
      }
      if (!right) {
        System.out.println("seed " + seed + ", the calls: " + calls);
        return;
      }
    }
  }

  // ---- calls with random numbers

  private boolean compare(String call, long got, long want) {
    calls.add(call);
    Due.is(call, got, want);
    return got == want;
  }

  /** Mostly from least to most, now and then just beyond, or far. */
  private int number(int least, int most) {
    switch (random.nextInt(40)) {
      case 0: return least - 1;
      case 1: return most + 1;
      case 2: return random.nextBoolean() ? random.nextInt() : Integer.MAX_VALUE - random.nextInt(3);
      default: return least + random.nextInt(most - least + 1);
    }
  }

  private int aCloud() {
    return number(0, model.now == null ? 0 : Math.max(0, model.now.clouds.size() - 1));
  }

  private int aRow() {
    return random.nextInt(4) == 0 ? number(0, 7) : random.nextInt(3);
  }

  private boolean feedText() {
    String text = text();
    if (random.nextInt(5) == 0 && !text.isEmpty()) {
      text = spoiled(text);
    }
    for (int k = 0; k < text.length(); k++) {
      int letter = text.charAt(k);
      if (!compare("feed(" + letter + ")", herd.feed(letter), model.feed(letter))) {
        return false;
      }
    }
    return compare("herd()", herd.herd(), model.read())
        && compare("fault()", herd.fault(), model.fault);
  }

  private String text() {
    StringBuilder all = new StringBuilder();
    all.append('k').append(1 + random.nextInt(9)).append(',').append(random.nextInt(10)).append(';');
    all.append('l').append(winds()).append(";u").append(winds()).append(';');
    // near one another, so that something happens
    int near = 4 + random.nextInt(28);
    List<Integer> parishes = someCells(near, random.nextInt(9));
    for (int cell : parishes) {
      all.append("fhm".charAt(random.nextInt(3))).append(cell).append(';');
    }
    List<Integer> clouds = someCells(near, random.nextInt(5) == 0 ? random.nextInt(6) : 5);
    for (int cell : clouds) {
      all.append("apbgy".charAt(random.nextInt(5))).append(cell).append(',');
      all.append(random.nextInt(21)).append(';');
    }
    return all.toString();
  }

  private String winds() {
    StringBuilder six = new StringBuilder();
    for (int k = 0; k < 6; k++) {
      six.append("oewsn".charAt(random.nextInt(5)));
    }
    return six.toString();
  }

  private List<Integer> someCells(int near, int n) {
    TreeSet<Integer> cells = new TreeSet<>();
    while (cells.size() < Math.min(n, near)) {
      cells.add(random.nextInt(near));
    }
    List<Integer> list = new ArrayList<>(cells);
    java.util.Collections.shuffle(list, random);
    return list;
  }

  private String spoiled(String text) {
    int at = random.nextInt(text.length());
    String sign = String.valueOf("0123456789,;klufhmapbgyoewsn A{".charAt(random.nextInt(31)));
    switch (random.nextInt(4)) {
      case 0: return text.substring(0, at);
      case 1: return text.substring(0, at) + text.substring(at + 1);
      case 2: return text.substring(0, at) + sign + text.substring(at);
      default: return text.substring(0, at) + sign + text.substring(at + 1);
    }
  }

  private boolean callOne() {
    switch (random.nextInt(36)) {
      case 0: case 1: case 2: return actHours();
      case 3: case 4: return actLift();
      case 5: return actRains();
      case 6: return compare("undo()", herd.undo(), model.undo());
      case 7: return callRow();
      case 8: case 9: return callSet();
      case 10: return callCopy();
      case 11: return callDrop();
      case 12: return callCloud();
      case 13: return callCell();
      case 14: return callWind();
      case 15: return callAhead();
      case 16: return callEarned();
      case 17: return callKnot();
      case 18: return callWetHay();
      case 19: return callSoon();
      case 20: return callHeights();
      case 21: return callShade();
      case 22: return callDew();
      case 23: return callLost();
      case 24: return callKite();
      case 25: return callTuesday();
      case 26: return callGuards();
      case 27: return callDues();
      case 28: return callImage();
      case 29: return callKind();
      case 30: return callAs();
      case 31: return callAsk();
      case 32: return callCount();
      case 33: return compare("status()", herd.status(), model.status);
      case 34: return callTold();
      default: return callFeed();
    }
  }

  private boolean actHours() {
    int n = random.nextInt(4) == 0 ? number(1, 24) : 1;
    return compare("hours(" + n + ")", herd.hours(n), model.pass(n));
  }

  private boolean actLift() {
    int cloud = aCloud();
    int up = number(0, 1);
    return compare("lift(" + cloud + ", " + up + ")", herd.lift(cloud, up), model.lift(cloud, up));
  }

  private boolean actRains() {
    int cloud = aCloud();
    int on = number(0, 1);
    return compare("rains(" + cloud + ", " + on + ")", herd.rains(cloud, on), model.tell(cloud, on));
  }

  private boolean callRow() {
    int row = aRow();
    int lane = number(0, 2);
    int n = random.nextBoolean() ? 12 : number(0, 40);
    return compare("row(" + row + ", " + lane + ", " + n + ")", herd.row(row, lane, n),
        model.row(row, lane, n));
  }

  private boolean callSet() {
    int row = aRow();
    int i = number(0, 12);
    int v = random.nextInt(8) == 0 ? random.nextInt() : random.nextInt(34) - 1;
    return compare("set(" + row + ", " + i + ", " + v + ")", herd.set(row, i, v),
        model.set(row, i, v));
  }

  private boolean callCopy() {
    int a = aRow();
    int i = number(0, 12);
    int b = aRow();
    int j = number(0, 12);
    int n = number(0, 8);
    return compare("copy(" + a + ", " + i + ", " + b + ", " + j + ", " + n + ")",
        herd.copy(a, i, b, j, n), model.copy(a, i, b, j, n));
  }

  private boolean callDrop() {
    int row = number(0, 7);
    return compare("drop(" + row + ")", herd.drop(row), model.drop(row));
  }

  private boolean callCloud() {
    int cloud = aCloud();
    int what = number(0, 4);
    return compare("cloud(" + cloud + ", " + what + ")", herd.cloud(cloud, what),
        model.of(cloud, what));
  }

  private boolean callCell() {
    int cell = number(0, 31);
    int what = number(0, 1);
    return compare("cell(" + cell + ", " + what + ")", herd.cell(cell, what), model.cell(cell, what));
  }

  private boolean callWind() {
    int height = number(0, 1);
    int place = number(0, 5);
    return compare("wind(" + height + ", " + place + ")", herd.wind(height, place),
        model.wind(height, place));
  }

  private boolean callAhead() {
    int cloud = aCloud();
    int n = number(0, 60);
    int what = number(0, 3);
    return compare("ahead(" + cloud + ", " + n + ", " + what + ")", herd.ahead(cloud, n, what),
        model.ahead(cloud, n, what));
  }

  private boolean callEarned() {
    int n = number(0, 60);
    return compare("earned(" + n + ")", herd.earned(n), model.earned(n));
  }

  private boolean callKnot() {
    int n = number(1, random.nextBoolean() ? 60 : 4);
    int what = number(0, 1);
    return compare("knot(" + n + ", " + what + ")", herd.knot(n, what), model.knot(n, what));
  }

  private boolean callWetHay() {
    int n = number(1, random.nextBoolean() ? 60 : 4);
    int what = number(0, 1);
    return compare("wetHay(" + n + ", " + what + ")", herd.wetHay(n, what), model.wetHay(n, what));
  }

  private boolean callSoon() {
    int cloud = aCloud();
    int cell = number(0, 31);
    return compare("soon(" + cloud + ", " + cell + ")", herd.soon(cloud, cell),
        model.soon(cloud, cell));
  }

  private boolean callHeights() {
    int cloud = aCloud();
    int n = number(1, 8);
    int what = number(0, 1);
    return compare("heights(" + cloud + ", " + n + ", " + what + ")", herd.heights(cloud, n, what),
        model.heights(cloud, n, what));
  }

  private boolean callShade() {
    int cell = number(0, 31);
    int n = number(1, 24);
    return compare("shade(" + cell + ", " + n + ")", herd.shade(cell, n), model.shade(cell, n));
  }

  private boolean callDew() {
    int row = aRow();
    int i = number(0, 3);
    int n = number(1, random.nextBoolean() ? 12 : 2);
    return compare("dew(" + row + ", " + i + ", " + n + ")", herd.dew(row, i, n),
        model.dew(row, i, n));
  }

  private boolean callLost() {
    int cloud = aCloud();
    int height = number(0, 1);
    int row = aRow();
    int i = number(0, 3);
    int n = number(1, random.nextBoolean() ? 12 : 2);
    int what = number(0, 1);
    return compare("lost(" + cloud + ", " + height + ", " + row + ", " + i + ", " + n + ", " + what
        + ")", herd.lost(cloud, height, row, i, n, what), model.lost(cloud, height, row, i, n, what));
  }

  private boolean callKite() {
    int row = aRow();
    int i = number(0, 3);
    int n = number(1, random.nextBoolean() ? 12 : 2);
    int what = number(0, 1);
    return compare("kite(" + row + ", " + i + ", " + n + ", " + what + ")",
        herd.kite(row, i, n, what), model.kite(row, i, n, what));
  }

  private boolean callTuesday() {
    int cloud = aCloud();
    int n = number(0, random.nextBoolean() ? 60 : 4);
    int cell = model.now != null && cloud >= 0 && cloud < model.now.clouds.size()
        && random.nextBoolean() ? model.now.clouds.get(cloud).cell : number(0, 31);
    int what = number(0, 1);
    return compare("tuesday(" + cloud + ", " + n + ", " + cell + ", " + what + ")",
        herd.tuesday(cloud, n, cell, what), model.tuesday(cloud, n, cell, what));
  }

  private boolean callGuards() {
    int row = aRow();
    int i = number(0, 3);
    int what = number(0, 1);
    return compare("guards(" + row + ", " + i + ")", herd.guards(row, i), model.guards(row, i, -1))
        && compare("status()", herd.status(), model.status)
        && compare("guardsValue(" + row + ", " + i + ", " + what + ")",
            herd.guardsValue(row, i, what), what == -1 ? BAD : model.guards(row, i, what));
  }

  private boolean callDues() {
    int n = number(0, 60);
    return compare("dues(" + n + ")", herd.dues(n), model.dues(n));
  }

  private boolean callImage() {
    int k = number(0, 1);
    return random.nextBoolean() ? compare("image(" + k + ")", herd.image(k), model.image(k))
        : compare("restore(" + k + ")", herd.restore(k), model.restore(k));
  }

  private boolean callKind() {
    int one = aCloud();
    return compare("kind(" + one + ")", herd.kind(one), model.kind(one));
  }

  private boolean callAs() {
    int one = aCloud();
    int kind = number(0, 5);
    return compare("as(" + one + ", " + kind + ")", herd.as(one, kind), model.as(one, kind));
  }

  private boolean callAsk() {
    int one = aCloud();
    int what = number(0, 1);
    boolean right = compare("ask(" + one + ", " + what + ")", herd.ask(one, what),
        model.ask(one, what));
    for (int k = 0; k < 7 && right; k++) {
      right = compare("trace(" + k + ")", herd.trace(k), model.trace(k));
    }
    return right;
  }

  private boolean callCount() {
    int what = number(0, 8);
    return compare("count(" + what + ")", herd.count(what), model.count(what));
  }

  /** A row that tells what was so, for calls that look for just that. */
  private boolean callTold() {
    int row = random.nextInt(3);
    int[] items = model.somethingSo(random);
    boolean right = compare("row(" + row + ", 1, 12)", herd.row(row, 1, 12), model.row(row, 1, 12));
    for (int k = 0; k < 12 && right; k++) {
      right = compare("set(" + row + ", " + k + ", " + items[k] + ")", herd.set(row, k, items[k]),
          model.set(row, k, items[k]));
    }
    return right;
  }

  private boolean callFeed() {
    if (random.nextInt(6) != 0) {
      return compare("fault()", herd.fault(), model.fault);
    }
    int letter = number(0, 255);
    return compare("feed(" + letter + ")", herd.feed(letter), model.feed(letter))
        && compare("herd()", herd.herd(), model.read());
  }

  // ---- the second telling

  /** A cloud, its kind a class; the marks that its bodies leave. */
  private static class Cloud implements Cloneable {
    int number, cell, height, water;
    boolean gone, told = true;
    List<Integer> marks = new ArrayList<>();

    static Cloud of(char sort) {
      switch (sort) {
        case 'a': return new White();
        case 'p': return new Sheep();
        case 'b': return new Black();
        case 'g': return new Fog();
        default: return new Stray();
      }
    }

    Cloud same() {
      try {
        Cloud other = (Cloud) clone();
        other.marks = new ArrayList<>();
        return other;
      } catch (CloneNotSupportedException e) {
        throw new IllegalStateException(e);
      }
    }

    int size() {
      marks.add(10);
      return water;
    }

    int mark() {
      marks.add(20);
      return number;
    }

    int kind() {
      return 0;
    }

    int rain(char parish) {
      return 0;
    }

    int ahead(int from, int direction) {
      int x = from & 7;
      int y = from >> 3;
      int newX = x + new int[] {0, 1, -1, 0, 0}[direction];
      int newY = y + new int[] {0, 0, 0, 1, -1}[direction];
      return newX < 0 || newX > 7 || newY < 0 || newY > 3 ? from : 8 * newY + newX;
    }
  }

  private static class White extends Cloud {
    @Override int size() {
      marks.add(11);
      int first = super.size();
      return first + mark();
    }

    @Override int mark() {
      marks.add(21);
      return super.mark() + cell;
    }

    @Override int kind() {
      return 1;
    }

    @Override int rain(char parish) {
      return told && parish == 'f' ? 1 : 0;
    }
  }

  private static final class Sheep extends White {
    @Override int size() {
      marks.add(12);
      return -super.size();
    }

    @Override int mark() {
      marks.add(24);
      return super.mark() * 2;
    }

    @Override int kind() {
      return 2;
    }

    @Override int rain(char parish) {
      return 0;
    }
  }

  private static final class Black extends White {
    @Override int mark() {
      marks.add(22);
      return super.mark() - 1000;
    }

    @Override int kind() {
      return 3;
    }

    @Override int rain(char parish) {
      return 2;
    }
  }

  private static class Fog extends Cloud {
    @Override int size() {
      marks.add(13);
      return super.size() - 100;
    }

    @Override int mark() {
      marks.add(23);
      int first = super.mark();
      return first - size();
    }

    @Override int kind() {
      return 4;
    }

    @Override int rain(char parish) {
      return height == 0 ? 1 : 0;
    }

    @Override int ahead(int from, int direction) {
      return from;
    }
  }

  private static final class Stray extends Fog {
    @Override int size() {
      marks.add(14);
      return super.size() * 2;
    }

    @Override int kind() {
      return 5;
    }

    @Override int ahead(int from, int direction) {
      return new Cloud().ahead(from, new int[] {0, 2, 1, 4, 3}[direction]);
    }
  }

  /** All of a herd at one time. */
  private static final class Sky {
    int pay, fine, hour, earned, milk, lostByHay;
    String[] winds = new String[2];
    char[] parishes = new char[32];
    List<Cloud> clouds = new ArrayList<>();
    /** By the hour that led here. */
    int wentBits;
    boolean wetHay;
    int[] rainedOn = new int[5];

    Sky same() {
      Sky s = new Sky();
      s.pay = pay;
      s.fine = fine;
      s.hour = hour;
      s.earned = earned;
      s.milk = milk;
      s.winds = winds;
      s.parishes = parishes;
      for (Cloud c : clouds) {
        s.clouds.add(c.same());
      }
      return s;
    }

    int direction(int height, int atHour) {
      return "oewsn".indexOf(winds[height].charAt(atHour % 6));
    }

    Sky later(int n) {
      Sky s = this;
      for (int k = 0; k < n; k++) {
        s = s.next();
      }
      return s;
    }

    Sky next() {
      Sky s = same();
      s.lostByHay = lostByHay;
      for (Cloud c : s.clouds) {
        if (!c.gone) {
          c.cell = c.ahead(c.cell, direction(c.height, hour));
        }
      }
      for (Cloud c : s.clouds) {
        for (Cloud d : s.clouds) {
          if (d.number < c.number && !d.gone && !c.gone && c.cell == d.cell && c.height == d.height) {
            d.water = d.water + c.water > 40 ? 40 : d.water + c.water;
            c.water = 0;
            c.gone = true;
            s.wentBits += 1 << c.number;
          }
        }
      }
      for (Cloud c : s.clouds) {
        s.rainOf(c);
      }
      for (Cloud c : s.clouds) {
        if (!c.gone && c.height == 0 && parishes[c.cell] == 'm' && c.water > 0) {
          c.water -= 1;
          s.milk += 1;
        }
      }
      s.hour += 1;
      return s;
    }

    private void rainOf(Cloud c) {
      int drops = c.gone ? 0 : c.rain(parishes[c.cell]);
      rainedOn[c.number] = -1;
      for (int k = 0; k < drops && c.water > 0; k++) {
        c.water -= 1;
        rainedOn[c.number] = c.cell;
        if (parishes[c.cell] == 'f') {
          earned += pay;
        }
        if (parishes[c.cell] == 'h') {
          earned -= fine;
          lostByHay += fine;
          wetHay = true;
        }
      }
    }

    Sky alone(int cloud) {
      Sky s = same();
      for (Cloud c : s.clouds) {
        if (c.number != cloud) {
          c.gone = true;
          c.water = 0;
        }
      }
      return s;
    }

    Sky withHeight(int cloud, int height) {
      Sky s = same();
      Cloud c = s.clouds.get(cloud);
      if (height == 1 && c.height == 0) {
        c.water = c.water < 2 ? 0 : c.water - 2;
      }
      c.height = height;
      return s;
    }
  }

  private static final class Token {
    final char type;
    final int place, value;

    Token(char type, int place, int value) {
      this.type = type;
      this.place = place;
      this.value = value;
    }
  }

  private static final class Model {
    Sky now = null;
    final List<Sky> acts = new ArrayList<>();
    final Sky[] images = new Sky[2];
    final int[][] rows = new int[8][];
    final int[] lanes = new int[8];
    final List<Integer> tape = new ArrayList<>();
    List<Integer> marks = new ArrayList<>();
    int fault = 0, status = 0;

    private int found(int number) {
      status = number;
      return -1000010 - number;
    }

    private int clean(int answer) {
      status = 0;
      return answer;
    }

    private static boolean out(int v, int least, int most) {
      return v < least || v > most;
    }

    private boolean noCloud(int cloud) {
      return now == null || out(cloud, 0, now.clouds.size() - 1);
    }

    // rows

    int row(int row, int lane, int n) {
      if (out(row, 0, 7) || out(lane, 0, 2) || n > 40) {
        return BAD;
      }
      if (n < 0) {
        return found(4);
      }
      rows[row] = new int[n];
      lanes[row] = lane;
      return clean(n);
    }

    int set(int row, int i, int v) {
      if (out(row, 0, 7)) {
        return BAD;
      }
      if (rows[row] == null) {
        return found(1);
      }
      if (out(i, 0, rows[row].length - 1)) {
        return found(2);
      }
      int bits = new int[] {24, 16, 0}[lanes[row]];
      rows[row][i] = v << bits >> bits;
      return clean(rows[row][i]);
    }

    int copy(int a, int i, int b, int j, int n) {
      if (out(a, 0, 7) || out(b, 0, 7)) {
        return BAD;
      }
      if (rows[a] == null || rows[b] == null) {
        return found(1);
      }
      if (lanes[a] != lanes[b]) {
        return found(5);
      }
      if (i < 0 || j < 0 || n < 0 || (long) i + n > rows[a].length || (long) j + n > rows[b].length) {
        return found(2);
      }
      int[] were = Arrays.copyOfRange(rows[a], i, i + n);
      for (int k = 0; k < n; k++) {
        rows[b][j + k] = were[k];
      }
      return clean(n);
    }

    int drop(int row) {
      if (out(row, 0, 7)) {
        return BAD;
      }
      if (rows[row] == null) {
        return found(1);
      }
      int n = rows[row].length;
      rows[row] = null;
      return clean(n);
    }

    /** 0, or what is found instead of n items from i on. */
    private int lack(int row, int i, int n) {
      if (rows[row] == null) {
        return found(1);
      }
      return i < 0 || (long) i + n > rows[row].length ? found(2) : clean(0);
    }

    // the tape

    int feed(int letter) {
      if (out(letter, 0, 255)) {
        return BAD;
      }
      if (tape.size() == 120) {
        return FULL;
      }
      tape.add(letter);
      return tape.size();
    }

    private List<Token> tokens() {
      List<Token> all = new ArrayList<>();
      StringBuilder text = new StringBuilder();
      for (int b : tape) {
        text.append((char) b);
      }
      java.util.regex.Matcher m = java.util.regex.Pattern
          .compile("([0-9]+)|([a-z,;])|([\\x00-\\xff])").matcher(text);
      while (m.find()) {
        if (m.group(1) != null && m.group(1).length() <= 2) {
          all.add(new Token('0', m.start(), Integer.parseInt(m.group(1))));
        } else if (m.group(2) != null) {
          all.add(new Token(m.group(2).charAt(0), m.start(), 0));
        } else {
          all.add(new Token('?', m.start(), 0));
        }
      }
      all.add(new Token('$', text.length(), 0));
      return all;
    }

    /** One state of the text for each token: what may stand there, as a pattern of its types. */
    int read() {
      List<Token> all = tokens();
      tape.clear();
      Sky s = new Sky();
      String low = "";
      String high = "";
      String state = "k";
      int parishes = 0;
      char sort = ' ';
      int cell = 0;
      for (Token t : all) {
        int wrong = 0;
        switch (state) {
          case "k": wrong = t.type == 'k' ? 0 : 1; state = "pay"; break;
          case "pay": wrong = number(t, 1, 9); s.pay = t.value; state = "k,"; break;
          case "k,": wrong = t.type == ',' ? 0 : 1; state = "fine"; break;
          case "fine": wrong = number(t, 0, 9); s.fine = t.value; state = "k;"; break;
          case "k;": wrong = t.type == ';' ? 0 : 1; state = "l"; break;
          case "l": wrong = t.type == 'l' ? 0 : 1; state = "low"; break;
          case "low":
            if (low.length() == 6) {
              wrong = t.type == ';' ? 0 : 1;
              state = "u";
            } else {
              wrong = "oewsn".indexOf(t.type) >= 0 ? 0 : 1;
              low += t.type;
            }
            break;
          case "u": wrong = t.type == 'u' ? 0 : 1; state = "high"; break;
          case "high":
            if (high.length() == 6) {
              wrong = t.type == ';' ? 0 : 1;
              state = "next";
            } else {
              wrong = "oewsn".indexOf(t.type) >= 0 ? 0 : 1;
              high += t.type;
            }
            break;
          case "next":
            sort = t.type;
            if ("fhm".indexOf(sort) >= 0 && s.clouds.isEmpty()) {
              wrong = parishes == 8 ? 3 : 0;
              state = "parish";
            } else if ("apbgy".indexOf(sort) >= 0) {
              wrong = s.clouds.size() == 5 ? 3 : 0;
              state = "cloud";
            } else {
              wrong = sort == '$' ? 0 : 1;
            }
            break;
          case "parish":
            wrong = number(t, 0, 31);
            wrong = wrong == 0 && s.parishes[t.value] != 0 ? 2 : wrong;
            cell = t.value;
            state = "parish;";
            break;
          case "parish;":
            wrong = t.type == ';' ? 0 : 1;
            s.parishes[cell] = sort;
            parishes++;
            state = "next";
            break;
          case "cloud":
            wrong = number(t, 0, 31);
            for (Cloud c : s.clouds) {
              wrong = wrong == 0 && c.cell == t.value ? 2 : wrong;
            }
            cell = t.value;
            state = "cloud,";
            break;
          case "cloud,": wrong = t.type == ',' ? 0 : 1; state = "water"; break;
          case "water":
            wrong = number(t, 0, 20);
            Cloud c = Cloud.of(sort);
            c.number = s.clouds.size();
            c.cell = cell;
            c.water = t.value;
            s.clouds.add(c);
            state = "cloud;";
            break;
          default: wrong = t.type == ';' ? 0 : 1; state = "next"; break;
        }
        if (wrong != 0) {
          fault = wrong;
          return -1000100 - t.place;
        }
      }
      s.winds = new String[] {low, high};
      now = s;
      acts.clear();
      return s.clouds.size();
    }

    private static int number(Token t, int least, int most) {
      if (t.type != '0') {
        return 1;
      }
      return out(t.value, least, most) ? 2 : 0;
    }

    // what is done

    private void keep() {
      acts.add(now);
      now = now.same();
      if (acts.size() > 24) {
        acts.remove(0);
      }
    }

    int undo() {
      if (acts.isEmpty()) {
        return STATE;
      }
      now = acts.remove(acts.size() - 1);
      return acts.size();
    }

    int pass(int n) {
      if (now == null) {
        return STATE;
      }
      if (out(n, 1, 24)) {
        return BAD;
      }
      if (now.hour + n >= 1000) {
        return FULL;
      }
      for (int k = 0; k < n; k++) {
        keep();
        now = now.next();
      }
      return now.earned;
    }

    int lift(int cloud, int up) {
      if (noCloud(cloud) || out(up, 0, 1)) {
        return BAD;
      }
      Cloud c = now.clouds.get(cloud);
      if (c.height == up || c.gone || c instanceof Fog) {
        return STATE;
      }
      keep();
      now = now.withHeight(cloud, up);
      return now.clouds.get(cloud).water;
    }

    int tell(int cloud, int on) {
      if (noCloud(cloud) || out(on, 0, 1)) {
        return BAD;
      }
      Cloud c = now.clouds.get(cloud);
      if (c.gone || c.kind() > 2) {
        return STATE;
      }
      keep();
      now.clouds.get(cloud).told = on == 1;
      return c.told ? 1 : 0;
    }

    private static int part(Cloud c, int what) {
      return new int[] {c.cell, c.height, c.water, c.gone ? 1 : 0, c.told ? 1 : 0}[what];
    }

    int of(int cloud, int what) {
      return noCloud(cloud) || out(what, 0, 4) ? BAD : part(now.clouds.get(cloud), what);
    }

    int cell(int cell, int what) {
      if (now == null) {
        return STATE;
      }
      if (out(cell, 0, 31) || out(what, 0, 1)) {
        return BAD;
      }
      return what == 0 ? "\0fhm".indexOf(now.parishes[cell]) : over(now, cell);
    }

    private static int over(Sky s, int cell) {
      int bits = 0;
      for (Cloud c : s.clouds) {
        bits |= !c.gone && c.cell == cell ? 1 << c.number : 0;
      }
      return bits;
    }

    int wind(int height, int place) {
      if (now == null) {
        return STATE;
      }
      return out(height, 0, 1) || out(place, 0, 5) ? BAD : now.direction(height, place);
    }

    // foretold

    int ahead(int cloud, int n, int what) {
      if (noCloud(cloud) || out(n, 0, 60) || out(what, 0, 3)) {
        return BAD;
      }
      return part(now.later(n).clouds.get(cloud), what);
    }

    int earned(int n) {
      if (now == null) {
        return STATE;
      }
      return out(n, 0, 60) ? BAD : now.later(n).earned;
    }

    int dues(int n) {
      if (now == null) {
        return STATE;
      }
      return out(n, 0, 60) ? BAD : now.later(n).milk - now.milk;
    }

    int knot(int n, int what) {
      if (now == null) {
        return STATE;
      }
      if (out(n, 1, 60) || out(what, 0, 1)) {
        return BAD;
      }
      Sky s = now;
      for (int k = 0; k < n; k++) {
        s = s.next();
        if (s.wentBits != 0) {
          return what == 0 ? k : s.wentBits;
        }
      }
      return NONE;
    }

    int wetHay(int n, int what) {
      if (now == null) {
        return STATE;
      }
      if (out(n, 1, 60) || out(what, 0, 1)) {
        return BAD;
      }
      Sky s = now.same();
      if (what == 1) {
        return s.later(n).lostByHay;
      }
      for (int k = 0; k < n; k++) {
        s = s.next();
        if (s.wetHay) {
          return k;
        }
      }
      return NONE;
    }

    int soon(int cloud, int cell) {
      if (noCloud(cloud) || out(cell, 0, 31)) {
        return BAD;
      }
      Cloud c = now.clouds.get(cloud);
      if (c.gone) {
        return STATE;
      }
      TreeSet<Integer> cells = new TreeSet<>(List.of(c.cell));
      for (int k = 0; k <= 24; k++) {
        if (cells.contains(cell)) {
          return k;
        }
        TreeSet<Integer> next = new TreeSet<>();
        for (int from : cells) {
          for (int height = 0; height < (c instanceof Fog ? 1 : 2); height++) {
            next.add(c.ahead(from, now.direction(height, now.hour + k)));
          }
        }
        cells = next;
      }
      return NONE;
    }

    int heights(int cloud, int n, int what) {
      if (noCloud(cloud) || out(n, 1, 8) || out(what, 0, 1)) {
        return BAD;
      }
      if (now.clouds.get(cloud).gone) {
        return STATE;
      }
      int[] best = {0, Integer.MIN_VALUE};
      search(now.alone(cloud), cloud, n, 0, 0, best);
      return best[what];
    }

    private void search(Sky s, int cloud, int n, int k, int bits, int[] best) {
      if (k == n) {
        int gain = s.earned - now.earned;
        if (gain > best[1] || gain == best[1] && bits < best[0]) {
          best[0] = bits;
          best[1] = gain;
        }
        return;
      }
      search(s.withHeight(cloud, 0).next(), cloud, n, k + 1, bits, best);
      if (!(s.clouds.get(cloud) instanceof Fog)) {
        search(s.withHeight(cloud, 1).next(), cloud, n, k + 1, bits + (1 << k), best);
      }
    }

    int shade(int cell, int n) {
      if (now == null) {
        return STATE;
      }
      if (out(cell, 0, 31) || out(n, 1, 24)) {
        return BAD;
      }
      int bits = 0;
      for (int k = 0; k < n; k++) {
        bits |= over(now.later(k + 1), cell) != 0 ? 1 << k : 0;
      }
      return bits;
    }

    private int[] rains(int cloud, int n) {
      int[] cells = new int[n];
      Sky s = now.alone(cloud);
      for (int k = 0; k < n; k++) {
        s = s.next();
        cells[k] = s.rainedOn[cloud];
      }
      return cells;
    }

    private int[] way(Cloud c, int from, int height, int n) {
      int[] cells = new int[n];
      for (int k = 0; k < n; k++) {
        cells[k] = c.ahead(k == 0 ? from : cells[k - 1], now.direction(height, now.hour + k));
      }
      return cells;
    }

    private int[] blown(int height, int place, int n) {
      int[] directions = new int[n];
      for (int k = 0; k < n; k++) {
        directions[k] = now.direction(height, place + k);
      }
      return directions;
    }

    int dew(int row, int i, int n) {
      if (now == null) {
        return STATE;
      }
      if (out(row, 0, 7) || out(n, 1, 12)) {
        return BAD;
      }
      int lack = lack(row, i, n);
      if (lack != 0) {
        return lack;
      }
      int bits = 0;
      for (Cloud c : now.clouds) {
        boolean so = Arrays.equals(rains(c.number, n), Arrays.copyOfRange(rows[row], i, i + n));
        bits |= !c.gone && so ? 1 << c.number : 0;
      }
      return bits;
    }

    int lost(int cloud, int height, int row, int i, int n, int what) {
      if (noCloud(cloud) || out(height, 0, 1) || out(row, 0, 7) || out(n, 1, 12) || out(what, 0, 1)) {
        return BAD;
      }
      int lack = lack(row, i, n);
      if (lack != 0) {
        return lack;
      }
      TreeSet<Integer> from = new TreeSet<>();
      for (int cell = 0; cell < 32; cell++) {
        if (Arrays.equals(way(now.clouds.get(cloud), cell, height, n),
            Arrays.copyOfRange(rows[row], i, i + n))) {
          from.add(cell);
        }
      }
      return what == 0 ? from.size() : from.isEmpty() ? NONE : from.first();
    }

    int kite(int row, int i, int n, int what) {
      if (now == null) {
        return STATE;
      }
      if (out(row, 0, 7) || out(n, 1, 12) || out(what, 0, 1)) {
        return BAD;
      }
      int lack = lack(row, i, n);
      if (lack != 0) {
        return lack;
      }
      TreeSet<Integer> ways = new TreeSet<>();
      for (int way = 0; way < 12; way++) {
        if (Arrays.equals(blown(way / 6, way % 6, n), Arrays.copyOfRange(rows[row], i, i + n))) {
          ways.add(way);
        }
      }
      return what == 0 ? ways.size() : ways.isEmpty() ? NONE : ways.first();
    }

    int tuesday(int cloud, int n, int cell, int what) {
      if (noCloud(cloud) || out(n, 0, 60) || out(cell, 0, 31) || out(what, 0, 1)) {
        return BAD;
      }
      if (now.clouds.get(cloud).gone) {
        return STATE;
      }
      int cases = 0;
      for (int later = 0; later < 6; later++) {
        Sky s = now.alone(cloud);
        s.hour += later;
        cases += s.later(n).clouds.get(cloud).cell == cell ? 1 : 0;
      }
      int[][] lowest = {{0, 1}, {1, 6}, {1, 3}, {1, 2}, {2, 3}, {5, 6}, {1, 1}};
      return lowest[cases][what];
    }

    /** The set (what = -1), or its value; all by the least number that 1 to 20 divide. */
    long guards(int row, int i, int what) {
      if (out(row, 0, 7) || out(what, -1, 1)) {
        return BAD;
      }
      int before = status;
      int lack = lack(row, i, 5);
      if (lack != 0) {
        return lack;
      }
      long best = 0, above = -1, below = 1, whole = 232792560L;
      for (int k = 0; k < 5; k++) {
        if (out(rows[row][i + k], 1, 20)) {
          status = before;
          return BAD;
        }
      }
      for (int set = 1; set < 32; set++) {
        long parts = 0;
        for (int k = 0; k < 5; k++) {
          parts += (set >> k & 1) != 0 ? whole / rows[row][i + k] : 0;
        }
        long taken = (Integer.bitCount(set) - 1) * whole;
        if (taken * below > above * parts) {
          best = set;
          above = taken;
          below = parts;
        }
      }
      long common = java.math.BigInteger.valueOf(above).gcd(java.math.BigInteger.valueOf(below))
          .longValue();
      return what == -1 ? best : (what == 0 ? above : below) / common;
    }

    /** Rain, a way or winds that were so, at least nearly. */
    int[] somethingSo(Random random) {
      int[] items = new int[12];
      if (now == null || now.clouds.isEmpty() || random.nextInt(4) == 0) {
        for (int k = 0; k < 12; k++) {
          items[k] = 1 + random.nextInt(20);
        }
        return items;
      }
      int cloud = random.nextInt(now.clouds.size());
      switch (random.nextInt(3)) {
        case 0: return rains(cloud, 12);
        case 1: return way(now.clouds.get(cloud), random.nextInt(32), random.nextInt(2), 12);
        default: return blown(random.nextInt(2), random.nextInt(6), 12);
      }
    }

    int image(int k) {
      if (out(k, 0, 1)) {
        return BAD;
      }
      if (now == null) {
        return STATE;
      }
      images[k] = now.same();
      return 1;
    }

    int restore(int k) {
      if (out(k, 0, 1)) {
        return BAD;
      }
      if (images[k] == null) {
        return STATE;
      }
      now = images[k].same();
      acts.clear();
      return 1;
    }

    // asked

    int kind(int one) {
      return noCloud(one) ? BAD : now.clouds.get(one).kind();
    }

    int as(int one, int kind) {
      if (noCloud(one) || out(kind, 0, 5)) {
        return BAD;
      }
      Class<?>[] kinds = {Cloud.class, White.class, Sheep.class, Black.class, Fog.class, Stray.class};
      return kinds[kind].isInstance(now.clouds.get(one)) ? clean(one) : found(3);
    }

    int ask(int one, int what) {
      if (noCloud(one) || out(what, 0, 1)) {
        return BAD;
      }
      Cloud c = now.clouds.get(one).same();
      int answer = what == 0 ? c.size() : c.mark();
      marks = c.marks;
      return answer;
    }

    int trace(int i) {
      return out(i, 0, marks.size() - 1) ? NONE : marks.get(i);
    }

    int count(int what) {
      int there = 0;
      for (int[] row : rows) {
        there += row != null ? 1 : 0;
      }
      int left = 0;
      int parishes = 0;
      Sky s = now == null ? new Sky() : now;
      for (Cloud c : s.clouds) {
        left += c.gone ? 0 : 1;
      }
      for (char parish : s.parishes) {
        parishes += parish == 0 ? 0 : 1;
      }
      int[] all = {there, s.clouds.size(), parishes, s.hour, s.earned, s.milk, left, acts.size(),
        tape.size()};
      return out(what, 0, 8) ? BAD : all[what];
    }
  }
}

/** Promises 30 to 35, and 37 for as(). */
public final class AskedTest {
  private static final int BAD = CloudHerd.BAD, STATE = CloudHerd.STATE, NONE = CloudHerd.NONE;
  private static final String FIVE = "k1,0;loooooo;uoooooo;a8,9;p7,6;b16,12;g10,4;y20,5;";

  public static void main(String[] args) {
    keepsImages();
    keepsWhatWasDone();
    kinds();
    takesAs();
    asksSizes();
    asksMarks();
    asksAnew();
    Due.end("AskedTest");
  }

  private static void keepsImages() {
    CloudHerd x = new CloudHerd();
    Due.is("no herd", x.image(0), STATE);
    Due.is("bad", x.image(2), BAD);
    Due.is("bad", x.image(-1), BAD);
    Due.is("none", x.restore(0), STATE);
    Due.is("bad", x.restore(2), BAD);
    Due.is("bad", x.restore(-1), BAD);
    Due.tell(x, "k5,3;leooooo;uoooooo;f1;m2;h3;a0,9;g1,20;p2,7;b3,9;");
    x.rains(0, 0);
    x.hours(2);
    x.lift(3, 1);
    Due.is("image", x.image(0), 1);
    Due.is("acts are left by it", x.count(7), 4);
    Due.is("the other", x.restore(1), STATE);
    x.undo();
    x.undo();
    x.undo();
    x.undo();
    String first = Due.seen(x);
    Due.is("image", x.image(1), 1);
    Due.tell(x, FIVE);
    x.hours(3);
    Due.is("restore", x.restore(1), 1);
    Due.same("as it was kept", Due.seen(x), first);
    x.hours(1);
    Due.is("restore", x.restore(1), 1);
    Due.same("as often as one likes", Due.seen(x), first);
    Due.is("no act", x.undo(), STATE);
  }

  private static void keepsWhatWasDone() {
    CloudHerd x = Due.told("k5,3;leooooo;uoooooo;f1;m2;h3;a0,9;g1,20;p2,7;b3,9;");
    x.rains(0, 0);
    x.hours(2);
    x.lift(3, 1);
    String last = Due.seen(x);
    x.image(0);
    Due.tell(x, FIVE);
    Due.is("restore", x.restore(0), 1);
    Due.is("no act", x.count(7), 0);
    Due.is("gone", x.cloud(1, 3), 1);
    Due.is("height", x.cloud(3, 1), 1);
    Due.is("told", x.cloud(0, 4), 0);
    Due.is("hour", x.count(3), 2);
    Due.same("the same again", Due.seen(x).replaceFirst(" 0 0 /", " 4 0 /"), last);
    Due.is("image over an image", x.image(1), 1);
    Due.tell(x, FIVE);
    x.restore(1);
    Due.is("hour", x.count(3), 2);
  }

  private static void kinds() {
    CloudHerd x = Due.told("k1,0;leooooo;uoooooo;y8,9;g1,6;b16,12;p10,4;a0,5;");
    int[] due = {5, 4, 3, 2, 1};
    for (int k = 0; k < 5; k++) {
      Due.is("kind " + k, x.kind(k), due[k]);
    }
    x.hours(1);
    Due.is("gone", x.cloud(4, 3), 1);
    Due.is("one that is gone", x.kind(4), 1);
    Due.is("5", x.kind(5), BAD);
    Due.is("-1", x.kind(-1), BAD);
  }

  private static void takesAs() {
    CloudHerd x = Due.told(FIVE);
    int[] due = {0b000011, 0b000111, 0b001011, 0b010001, 0b110001};
    for (int one = 0; one < 5; one++) {
      for (int kind = 0; kind < 6; kind++) {
        boolean such = (due[one] >> kind & 1) != 0;
        Due.is("as " + one + " " + kind, x.as(one, kind), such ? one : -1000013);
        Due.is("status " + one + " " + kind, x.status(), such ? 0 : 3);
      }
    }
    x.as(0, 5);
    Due.is("cloud 5", x.as(5, 0), BAD);
    Due.is("cloud -1", x.as(-1, 0), BAD);
    Due.is("kind 6", x.as(0, 6), BAD);
    Due.is("kind -1", x.as(0, -1), BAD);
    Due.is("bad leaves status", x.status(), 3);
  }

  private static void asked(CloudHerd x, int one, int what, int due, int... trace) {
    Due.is("ask " + one + " " + what, x.ask(one, what), due);
    for (int k = 0; k < trace.length; k++) {
      Due.is("trace " + k + " of ask " + one + " " + what, x.trace(k), trace[k]);
    }
    Due.is("its end", x.trace(trace.length), NONE);
  }

  private static void asksSizes() {
    CloudHerd x = Due.told(FIVE);
    asked(x, 0, 0, 9 + 0 + 8, 11, 10, 21, 20);
    asked(x, 1, 0, -(6 + 2 * (1 + 7)), 12, 11, 10, 24, 21, 20);
    asked(x, 2, 0, 12 + 2 + 16 - 1000, 11, 10, 22, 21, 20);
    asked(x, 3, 0, 4 - 100, 13, 10);
    asked(x, 4, 0, 2 * (5 - 100), 14, 13, 10);
  }

  private static void asksMarks() {
    CloudHerd x = Due.told(FIVE);
    asked(x, 0, 1, 0 + 8, 21, 20);
    asked(x, 1, 1, 2 * (1 + 7), 24, 21, 20);
    asked(x, 2, 1, 2 + 16 - 1000, 22, 21, 20);
    asked(x, 3, 1, 3 - (4 - 100), 23, 20, 13, 10);
    asked(x, 4, 1, 4 - 2 * (5 - 100), 23, 20, 14, 13, 10);
  }

  private static void asksAnew() {
    CloudHerd x = new CloudHerd();
    Due.is("at first", x.trace(0), NONE);
    Due.is("no herd", x.ask(0, 0), BAD);
    Due.tell(x, "k1,0;leooooo;uoooooo;g1,6;b0,12;");
    x.ask(0, 1);
    Due.is("cloud 2", x.ask(2, 0), BAD);
    Due.is("cloud -1", x.ask(-1, 0), BAD);
    Due.is("what 2", x.ask(0, 2), BAD);
    Due.is("what -1", x.ask(0, -1), BAD);
    Due.is("what is refused changes nothing", x.trace(3), 10);
    Due.is("-1", x.trace(-1), NONE);
    Due.is("16", x.trace(16), NONE);
    Due.is("most", x.trace(Integer.MAX_VALUE), NONE);
    x.hours(1);
    asked(x, 0, 0, 6 + 12 - 1 - 100, 13, 10);
    asked(x, 1, 0, 0 + 1 + 1 - 1000, 11, 10, 22, 21, 20);
  }
}

/** Promises 1, 6, 7 and 8. */
public final class TapeTest {
  private static final String HEAD = "k1,0;loooooo;uoooooo;";

  public static void main(String[] args) {
    beginsWithout();
    feedsBytes();
    readsHerds();
    findsFaultsOfLaw();
    findsFaultsOfWinds();
    findsFaultsOfParishes();
    findsFaultsOfClouds();
    leavesAllByFault();
    endsWhereItEnds();
    takesThePlaceOfOneBefore();
    Due.end("TapeTest");
  }

  private static void beginsWithout() {
    CloudHerd x = new CloudHerd();
    for (int what = 0; what <= 8; what++) {
      Due.is("count " + what, x.count(what), 0);
    }
    Due.is("fault", x.fault(), 0);
    Due.is("status", x.status(), 0);
    Due.is("undo", x.undo(), CloudHerd.STATE);
    Due.is("cell", x.cell(0, 0), CloudHerd.STATE);
    Due.is("cell, bad", x.cell(99, 99), CloudHerd.STATE);
    Due.is("hours, bad", x.hours(0), CloudHerd.STATE);
    Due.is("cloud", x.cloud(0, 0), CloudHerd.BAD);
    Due.is("restore", x.restore(1), CloudHerd.STATE);
    Due.is("row", x.drop(7), -1000011);
  }

  private static void feedsBytes() {
    CloudHerd x = new CloudHerd();
    Due.is("-1", x.feed(-1), CloudHerd.BAD);
    Due.is("256", x.feed(256), CloudHerd.BAD);
    Due.is("0", x.feed(0), 1);
    Due.is("255", x.feed(255), 2);
    for (int k = 3; k <= 120; k++) {
      Due.is("byte " + k, x.feed(97), k);
    }
    Due.is("one more", x.feed(97), CloudHerd.FULL);
    Due.is("one more that is bad", x.feed(256), CloudHerd.BAD);
    Due.is("bytes", x.count(8), 120);
    Due.is("byte 0 is no token", x.herd(), -1000100);
    Due.is("empty then", x.count(8), 0);
    Due.is("anew", x.feed(97), 1);
  }

  private static void readsHerds() {
    CloudHerd x = new CloudHerd();
    Due.is("no cloud", Due.tell(x, HEAD), 0);
    Due.is("it stands", x.cell(0, 0), 0);
    Due.is("figures with a 0 ahead",
        Due.tell(x, "k09,00;lowesnn;unsewoo;f00;h31;m07;a00,00;p31,20;b1,5;g02,05;y3,1;"), 5);
    Due.is("parishes", x.count(2), 3);
    Due.is("field", x.cell(0, 0), 1);
    Due.is("hay", x.cell(31, 0), 2);
    Due.is("hill", x.cell(7, 0), 3);
    int[] winds = {0, 2, 1, 3, 4, 4, 4, 3, 1, 2, 0, 0};
    for (int k = 0; k < 12; k++) {
      Due.is("wind " + k, x.wind(k / 6, k % 6), winds[k]);
    }
    int[] kinds = {1, 2, 3, 4, 5};
    int[] cells = {0, 31, 1, 2, 3};
    int[] waters = {0, 20, 5, 5, 1};
    for (int k = 0; k < 5; k++) {
      Due.is("kind", x.kind(k), kinds[k]);
      Due.is("cell", x.cloud(k, 0), cells[k]);
      Due.is("height", x.cloud(k, 1), 0);
      Due.is("water", x.cloud(k, 2), waters[k]);
      Due.is("gone", x.cloud(k, 3), 0);
      Due.is("told", x.cloud(k, 4), 1);
    }
    Due.is("eight parishes", Due.tell(x, HEAD + "f0;f1;f2;f3;f4;f5;f6;h7;"), 0);
    Due.is("eight parishes", x.count(2), 8);
    Due.is("no fault yet", x.fault(), 0);
  }

  private static void finds(String text, int place, int fault) {
    CloudHerd x = new CloudHerd();
    Due.is("herd() of " + text, Due.tell(x, text), -1000100 - place);
    Due.is("fault() of " + text, x.fault(), fault);
  }

  private static void findsFaultsOfLaw() {
    finds("", 0, 1);
    finds("l", 0, 1);
    finds("K1,0;", 0, 1);
    finds(" k1,0;", 0, 1);
    finds("k", 1, 1);
    finds("k,", 1, 1);
    finds("k0,0;", 1, 2);
    finds("k10,0;", 1, 2);
    finds("k001,0;", 1, 1);
    finds("k1234,0;", 1, 1);
    finds("k1;0;", 2, 1);
    finds("k1,;", 3, 1);
    finds("k9,10;", 3, 2);
    finds("k9,099;", 3, 1);
    finds("k9,9", 4, 1);
    finds("k9,9,", 4, 1);
    finds("k9,9;", 5, 1);
    finds("k9 ,9;", 2, 1);
    finds("k-1,9;", 1, 1);
    finds("k99,99;", 1, 2);
    finds("k1,0;;", 5, 1);
  }

  private static void findsFaultsOfWinds() {
    finds("k1,0;u", 5, 1);
    finds("k1,0;looooo;", 11, 1);
    finds("k1,0;looooooo", 12, 1);
    finds("k1,0;loooaoo;", 9, 1);
    finds("k1,0;looo1oo;", 9, 1);
    finds("k1,0;loooEoo;", 9, 1);
    finds("k1,0;loooooo;l", 13, 1);
    finds("k1,0;loooooo;uooooo", 19, 1);
    finds("k1,0;loooooo;uoooooo", 20, 1);
    finds("k1,0;loooooo;uoooooo,", 20, 1);
    finds(HEAD + ";", 21, 1);
    finds(HEAD + "1", 21, 1);
    finds(HEAD + "k", 21, 1);
    finds(HEAD + "e", 21, 1);
  }

  private static void findsFaultsOfParishes() {
    finds(HEAD + "f", 22, 1);
    finds(HEAD + "f;", 22, 1);
    finds(HEAD + "f32;", 22, 2);
    finds(HEAD + "f99", 22, 2);
    finds(HEAD + "f031;", 22, 1);
    finds(HEAD + "f31", 24, 1);
    finds(HEAD + "f31,", 24, 1);
    finds(HEAD + "f3;h3;", 25, 2);
    finds(HEAD + "f3;h03", 25, 2);
    finds(HEAD + "f31;h31;", 26, 2);
    finds(HEAD + "f0;f1;f2;f3;f4;f5;f6;f7;f8;", 45, 3);
    finds(HEAD + "f0;f1;f2;f3;f4;f5;f6;f7;m", 45, 3);
    finds(HEAD + "f0;f1;f2;f3;f4;f5;f6;f7;x", 45, 1);
    finds(HEAD + "f0;f1;f2;f3;f4;f5;f6;f7;123", 45, 1);
    finds(HEAD + "f0;f1;f2;f3;f4;f5;f6;f6;f8;", 43, 2);
    finds(HEAD + "a0,0;f1;", 26, 1);
    finds(HEAD + "hh", 22, 1);
    finds(HEAD + "x1;", 21, 1);
  }

  private static void findsFaultsOfClouds() {
    finds(HEAD + "a", 22, 1);
    finds(HEAD + "a32,0;", 22, 2);
    finds(HEAD + "a0;", 23, 1);
    finds(HEAD + "a0,", 24, 1);
    finds(HEAD + "a0,21;", 24, 2);
    finds(HEAD + "a0,020;", 24, 1);
    finds(HEAD + "a0,20", 26, 1);
    finds(HEAD + "a0,20,", 26, 1);
    finds(HEAD + "a0,1;b0,1;", 27, 2);
    finds(HEAD + "a31,1;b31,1;", 28, 2);
    finds(HEAD + "a0,1;p1,1;b2,1;g3,1;y4,1;a5,1;", 46, 3);
    finds(HEAD + "a0,1;p1,1;b2,1;g3,1;y4,1;y", 46, 3);
    finds(HEAD + "a0,1;p1,1;b2,1;g3,1;y4,1;f5;", 46, 1);
    finds(HEAD + "a0,1;p1,1;b2,1;g3,1;y4,1;0", 46, 1);
    finds(HEAD + "a0,1;\n", 26, 1);
    Due.is("a parish and a cloud share a cell", Due.tell(new CloudHerd(), HEAD + "f5;a5,1;"), 1);
  }

  private static void leavesAllByFault() {
    CloudHerd x = Due.told("k2,3;leeeeee;uoooooo;f1;h9;a0,5;b8,9;");
    x.hours(2);
    x.lift(0, 1);
    x.image(0);
    String before = Due.seen(x);
    String[] texts = {"", "k5,5;", HEAD + "f1;f2;f3;b4,5;b4,5;", HEAD + "a0,1;a1,1;a2,1;x"};
    int[] faults = {1, 1, 2, 1};
    for (int k = 0; k < texts.length; k++) {
      Due.is("a fault", Due.tell(x, texts[k]) <= -1000100 ? 1 : 0, 1);
      Due.is("fault", x.fault(), faults[k]);
      Due.same("all stays", Due.seen(x), before);
    }
    Due.is("undo", x.undo(), 2);
    Due.is("no fault", Due.tell(x, HEAD), 0);
    Due.is("the latest fault yet", x.fault(), 1);
  }

  /** What stood on the tape before is not read again, and a full tape ends where it ends. */
  private static void endsWhereItEnds() {
    CloudHerd x = new CloudHerd();
    Due.is("four bytes and two", Due.tell(x, "k1,00;"), -1000106);
    Due.is("four bytes", Due.tell(x, "k1,0"), -1000104);
    Due.is("a parish over 0", Due.tell(x, HEAD + "f0;"), 0);
    Due.is("none", Due.tell(x, HEAD), 0);
    Due.is("none", x.cell(0, 0), 0);
    String full = "k1,0;loooooo;uoooooo;f10;f11;f12;f13;f14;f15;f16;f17;"
        + "a10,10;a11,10;a12,10;a13,10;a14,10;";
    Due.is("most that is told", Due.tell(x, full), 5);
    Due.is("120 bytes", Due.tell(x, full + "a".repeat(120 - full.length())), -1000100 - full.length());
    Due.is("fault", x.fault(), 3);
    Due.is("120 bytes, figures last", Due.tell(x, "k1,0;" + "9".repeat(115)), -1000105);
    Due.is("120 figures", Due.tell(new CloudHerd(), "1".repeat(120)), -1000100);
  }

  private static void takesThePlaceOfOneBefore() {
    CloudHerd x = Due.told("k2,3;leeeeee;uoooooo;f1;h9;m3;a0,5;b8,9;g3,3;");
    x.rains(0, 0);
    x.hours(3);
    x.lift(1, 1);
    Due.is("earned", x.count(4) != 0 ? 1 : 0, 1);
    Due.is("milk", x.count(5), 2);
    Due.is("third is gone", x.cloud(2, 3), 1);
    Due.is("foretold", x.ahead(1, 1, 1), 1);
    Due.is("none left of what was foretold", Due.tell(x, HEAD + "p9,5;b8,9;g1,1;"), 3);
    int[] none = {0, 3, 0, 0, 0, 0, 3, 0, 0};
    for (int what = 0; what <= 8; what++) {
      Due.is("count " + what, x.count(what), none[what]);
    }
    Due.is("height", x.cloud(1, 1), 0);
    Due.is("gone", x.cloud(2, 3), 0);
    Due.is("two clouds", Due.tell(x, HEAD + "h3;p9,5;b8,9;"), 2);
    int[] counts = {0, 2, 1, 0, 0, 0, 2, 0, 0};
    for (int what = 0; what <= 8; what++) {
      Due.is("count " + what, x.count(what), counts[what]);
    }
    Due.is("height", x.cloud(1, 1), 0);
    Due.is("told", x.cloud(0, 4), 1);
    Due.is("parish", x.cell(1, 0), 0);
    Due.is("parish", x.cell(3, 0), 2);
    Due.is("wind", x.wind(0, 0), 0);
    Due.is("undo", x.undo(), CloudHerd.STATE);
    Due.is("no third cloud", x.cloud(2, 0), CloudHerd.BAD);
  }
}

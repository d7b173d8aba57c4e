/** Promises 1 and 6 to 8, and what part 1 says of texts: each sentence that names an edge, alone. */
public final class EdgesOfTapeTest {
  private static final int BAD = Edges.BAD, STATE = Edges.STATE, FULL = Edges.FULL;
  private static final int NULL = Edges.NULL, NONE = Edges.NONE;
  private static final String CALM = Edges.CALM;
  private static final String EIGHT = "f10;f11;f12;f13;f14;f15;f16;f17;";
  private static final String FIVE = "a10,20;p11,20;b12,20;g13,20;y14,20;";
  /** No text without a fault is longer: 90 bytes. */
  private static final String LONGEST = "k01,00;loooooo;uoooooo;" + EIGHT + FIVE;

  public static void main(String[] args) throws Exception {
    Edges.run(EdgesOfTapeTest.class, 1, 6, 7, 8);
  }

  private static void reads(String text, int clouds) {
    CloudHerd x = new CloudHerd();
    Due.is("herd() of " + text, Due.tell(x, text), clouds);
    Due.is("fault() of " + text, x.fault(), 0);
  }

  private static void faulty(String text, int place, int fault) {
    CloudHerd x = new CloudHerd();
    Due.is("herd() of " + text, Due.tell(x, text), -1000100 - place);
    Due.is("fault() of " + text, x.fault(), fault);
    Due.is("no herd by " + text, x.cell(0, 0), STATE);
  }

  // ---- promise 1

  // "No HERD": all that asks for one
  private static void p01_noHerd() {
    CloudHerd x = new CloudHerd();
    x.row(0, 0, 12);
    long[] answers = {x.hours(1), x.cell(0, 0), x.wind(0, 0), x.earned(0), x.knot(1, 0),
      x.wetHay(1, 0), x.shade(0, 1), x.dew(0, 0, 1), x.kite(0, 0, 1, 0), x.dues(0), x.image(0)};
    for (int k = 0; k < answers.length; k++) {
      Due.is("call " + k + " without a herd", answers[k], STATE);
    }
  }

  // there is no cloud, then
  private static void p01_noCloud() {
    CloudHerd x = new CloudHerd();
    x.row(0, 0, 12);
    long[] answers = {x.lift(0, 1), x.rains(0, 1), x.cloud(0, 0), x.ahead(0, 0, 0), x.soon(0, 0),
      x.heights(0, 1, 0), x.lost(0, 0, 0, 0, 1, 0), x.tuesday(0, 0, 0, 0), x.kind(0), x.as(0, 0),
      x.ask(0, 0)};
    for (int k = 0; k < answers.length; k++) {
      Due.is("call " + k + " without a cloud", answers[k], BAD);
    }
  }

  // nothing is there of what can be counted, told, undone, restored
  private static void p01_nothing() {
    CloudHerd x = new CloudHerd();
    for (int what = 0; what <= 8; what++) {
      Due.is("count " + what, x.count(what), 0);
    }
    Due.is("row", x.drop(0), NULL);
    CloudHerd y = new CloudHerd();
    Due.is("status", y.status(), 0);
    Due.is("fault", y.fault(), 0);
    Due.is("undo", y.undo(), STATE);
    Due.is("image 0", y.restore(0), STATE);
    Due.is("image 1", y.restore(1), STATE);
    Due.is("trace", y.trace(0), NONE);
  }

  // each object has its own
  private static void p01_eachItsOwn() {
    CloudHerd one = Edges.busy();
    CloudHerd other = new CloudHerd();
    Due.is("rows", other.count(0), 0);
    Due.is("bytes", other.count(8), 0);
    Due.is("a herd", other.cell(0, 0), STATE);
    Due.is("yet", one.count(1), 5);
  }

  // ---- promise 6

  // "A byte (0 to 255)"
  private static void p06_bytes() {
    Edges.takes("byte", 0, 255, (x, v) -> x.feed(v));
  }

  // "THE TAPE has at most 120 bytes"; "how many it has"
  private static void p06_most() {
    CloudHerd x = new CloudHerd();
    for (int k = 1; k <= 120; k++) {
      Due.is("byte " + k, x.feed('0' + k % 10), k);
    }
    Edges.refuses("byte 121", x, FULL, (y, v) -> y.feed('0'));
    Due.is("bytes", x.count(8), 120);
  }

  // BAD is ahead of FULL
  private static void p06_badAheadOfFull() {
    CloudHerd x = new CloudHerd();
    for (int k = 0; k < 120; k++) {
      x.feed(0);
    }
    Due.is("256", x.feed(256), BAD);
    Due.is("-1", x.feed(-1), BAD);
    Due.is("255", x.feed(255), FULL);
  }

  // what is refused does not come behind the tape
  private static void p06_refusedDoesNotCome() {
    CloudHerd x = new CloudHerd();
    String text = CALM + "a31,20;";
    for (int k = 0; k < text.length(); k++) {
      x.feed(256);
      Due.is("byte", x.feed(text.charAt(k)), k + 1);
      x.feed(-1);
    }
    Due.is("read all the same", x.herd(), 1);
  }

  // a tape is full again only behind 120 more
  private static void p06_emptyAgain() {
    CloudHerd x = new CloudHerd();
    for (int k = 0; k < 120; k++) {
      x.feed('k');
    }
    x.herd();
    for (int k = 1; k <= 120; k++) {
      Due.is("byte " + k, x.feed('k'), k);
    }
    Due.is("byte 121", x.feed('k'), FULL);
  }

  // ---- promise 7: tokens

  private static final int LAW = 0, DIRECTION = 6, SIGN = 12, NEXT = 21;

  /** What is due where one byte of a text is each of 0 to 255. */
  private static void withByte(int at, String fine, int v) {
    String text = CALM.substring(0, at) + (char) v;
    boolean stands = fine.indexOf(v) >= 0;
    faulty(text, stands ? at + 1 : at, 1);
  }

  // "law: k ..": k, and no other byte
  private static void p07_lawLetter() {
    for (int v = 0; v < 256; v++) {
      withByte(LAW, "k", v);
    }
  }

  // "a DIRECTION: o none, e east, w west, s south, n north", and no other byte
  private static void p07_directionLetters() {
    for (int v = 0; v < 256; v++) {
      withByte(DIRECTION, "oewsn", v);
    }
  }

  // "SIGNS , and ;": the one that is due, and no other byte
  private static void p07_signs() {
    for (int v = 0; v < 256; v++) {
      withByte(SIGN, ";", v);
    }
  }

  // "{ parish } { cloud }": f h m a p b g y, and no other byte
  private static void p07_parishAndCloudLetters() {
    for (int v = 0; v < 256; v++) {
      withByte(NEXT, "fhmapbgy", v);
    }
  }

  // "NUMBERS (figures ..)": 0 to 9, and no other byte
  private static void p07_figures() {
    for (int v = 0; v < 256; v++) {
      boolean figure = v >= '0' && v <= '9';
      faulty("k" + (char) v, figure && v != '0' ? 2 : 1, v == '0' ? 2 : 1);
    }
  }

  // "figures, 2 at most": a second figure is of the same number, any other byte is not
  private static void p07_secondFigures() {
    for (int v = 0; v < 256; v++) {
      boolean figure = v >= '0' && v <= '9';
      // 10 to 19 are no PAY
      faulty("k1" + (char) v, figure ? 1 : v == ',' ? 3 : 2, figure ? 2 : 1);
    }
  }

  // a 0 ahead is one of the two figures
  private static void p07_zerosAhead() {
    reads("k01,00;loooooo;uoooooo;f00;a00,00;", 1);
    reads("k09,09;loooooo;uoooooo;m09;y09,09;", 1);
  }

  // "a run of three figures, at its first", wherever a NUMBER can stand
  private static void p07_threeFigures() {
    faulty("k001,0;", 1, 1);
    faulty("k1,000;", 3, 1);
    faulty(CALM + "f000;", 22, 1);
    faulty(CALM + "a000,0;", 22, 1);
    faulty(CALM + "a0,000;", 24, 1);
  }

  // of more than three, too
  private static void p07_moreFigures() {
    faulty("k0001,0;", 1, 1);
    faulty("k00001,0;", 1, 1);
    faulty("k1,000000;", 3, 1);
    faulty("k" + "1".repeat(119), 1, 1);
    faulty("1".repeat(120), 0, 1);
  }

  // three figures at the end of the tape, and two
  private static void p07_figuresAtTheEnd() {
    faulty("k1,000", 3, 1);
    faulty("k1,00", 5, 1);
    faulty("k1,0", 4, 1);
    faulty(CALM + "f031", 22, 1);
    faulty(CALM + "f31", 24, 1);
  }

  // "the end: how many bytes there are": of each text that ends too early
  private static void p07_theEnd() {
    String text = CALM + "f1;a1,1;";
    for (int n = 0; n < text.length(); n++) {
      if (n == 21 || n == 24) {
        reads(text.substring(0, n), 0);
      } else {
        faulty(text.substring(0, n), n, 1);
      }
    }
    reads(text, 1);
  }

  // the same of the longest text
  private static void p07_theEndOfTheLongest() {
    Due.is("its length", LONGEST.length(), 90);
    reads(LONGEST, 5);
    faulty(LONGEST.substring(0, 89), 89, 1);
    faulty(LONGEST + ";", 90, 1);
    faulty(LONGEST + "a", 90, 3);
    faulty(LONGEST + "f", 90, 1);
    faulty(LONGEST + " ".repeat(30), 90, 1);
  }

  // ---- promise 7: law

  // "PAY .. (1 to 9 ..)"
  private static void p07_pay() {
    faulty("k0,0;loooooo;uoooooo;", 1, 2);
    reads("k1,0;loooooo;uoooooo;", 0);
    reads("k9,0;loooooo;uoooooo;", 0);
    faulty("k10,0;loooooo;uoooooo;", 1, 2);
    faulty("k99,0;loooooo;uoooooo;", 1, 2);
    faulty("k00,0;loooooo;uoooooo;", 1, 2);
  }

  // "FINE .. (.. 0 to 9)"
  private static void p07_fine() {
    reads("k1,0;loooooo;uoooooo;", 0);
    reads("k1,9;loooooo;uoooooo;", 0);
    faulty("k1,10;loooooo;uoooooo;", 3, 2);
    faulty("k1,99;loooooo;uoooooo;", 3, 2);
  }

  // PAY and FINE are what is told, at both ends
  private static void p07_payAndFineAsTold() {
    for (int pay : new int[] {1, 9}) {
      CloudHerd x = Due.told("k" + pay + ",0;loooooo;uoooooo;f0;a0,1;");
      Due.is("pay", x.hours(1), pay);
    }
    for (int fine : new int[] {0, 9}) {
      CloudHerd x = Due.told("k1," + fine + ";loooooo;uoooooo;h0;g0,1;");
      Due.is("fine", x.hours(1), -fine);
    }
  }

  // the law stands once, and first
  private static void p07_oneLaw() {
    faulty("loooooo;", 0, 1);
    faulty("k1,0;k1,0;", 5, 1);
    faulty("k1,0,", 4, 1);
    faulty("k1;", 2, 1);
    faulty("k,", 1, 1);
    faulty("k1,;", 3, 1);
  }

  // ---- promise 7: winds

  // "low: l and six DIRECTIONS ;"
  private static void p07_lowHasSix() {
    faulty("k1,0;looooo;uoooooo;", 11, 1);
    reads("k1,0;loooooo;uoooooo;", 0);
    faulty("k1,0;looooooo;uoooooo;", 12, 1);
    faulty("k1,0;l;", 6, 1);
  }

  // "high: u and six DIRECTIONS ;"
  private static void p07_highHasSix() {
    faulty("k1,0;loooooo;uooooo;", 19, 1);
    faulty("k1,0;loooooo;uooooooo;", 20, 1);
    faulty("k1,0;loooooo;u;", 14, 1);
  }

  // low, then high, once each
  private static void p07_lowThenHigh() {
    faulty("k1,0;uoooooo;loooooo;", 5, 1);
    faulty("k1,0;loooooo;loooooo;", 13, 1);
    faulty("k1,0;loooooo;f0;", 13, 1);
    faulty("k1,0;f0;", 5, 1);
    faulty(CALM + "uoooooo;", 21, 1);
  }

  // each DIRECTION at each of the places, the first and the last too
  private static void p07_windsAsTold() {
    String letters = "oewsn";
    for (int direction = 0; direction < 5; direction++) {
      for (int place = 0; place < 6; place++) {
        StringBuilder six = new StringBuilder("oooooo");
        six.setCharAt(place, letters.charAt(direction));
        CloudHerd low = Due.told("k1,0;l" + six + ";uoooooo;");
        CloudHerd high = Due.told("k1,0;loooooo;u" + six + ";");
        for (int k = 0; k < 6; k++) {
          Due.is("low " + six + " at " + k, low.wind(0, k), k == place ? direction : 0);
          Due.is("not high " + six + " at " + k, low.wind(1, k), 0);
          Due.is("high " + six + " at " + k, high.wind(1, k), k == place ? direction : 0);
          Due.is("not low " + six + " at " + k, high.wind(0, k), 0);
        }
      }
    }
  }

  // ---- promise 7: parishes

  // "a CELL 0 to 31"
  private static void p07_parishCell() {
    for (char letter : "fhm".toCharArray()) {
      reads(CALM + letter + "0;", 0);
      reads(CALM + letter + "31;", 0);
      faulty(CALM + letter + "32;", 22, 2);
      faulty(CALM + letter + "99;", 22, 2);
    }
  }

  // "a CELL .. without a parish"
  private static void p07_parishCellOnce() {
    faulty(CALM + "f0;f0;", 25, 2);
    faulty(CALM + "f0;h0;", 25, 2);
    faulty(CALM + "m31;f31;", 26, 2);
    faulty(CALM + "m7;f07;", 25, 2);
    faulty(CALM + "f0;f1;f2;f3;f4;f5;f6;f0;", 43, 2);
    reads(CALM + "f0;f1;f31;f30;", 0);
  }

  // "8 at most"; "3 a parish .. more than there is room for (its letter)"
  private static void p07_eightParishes() {
    reads(CALM + EIGHT, 0);
    CloudHerd x = Due.told(CALM + EIGHT);
    Due.is("parishes", x.count(2), 8);
    for (char letter : "fhm".toCharArray()) {
      faulty(CALM + EIGHT + letter + "18;", 53, 3);
      // whatever stands behind its letter
      faulty(CALM + EIGHT + letter, 53, 3);
      faulty(CALM + EIGHT + letter + "10;", 53, 3);
      faulty(CALM + EIGHT + letter + "99;", 53, 3);
    }
  }

  // behind eight, what cannot stand there is 1, a cloud is fine
  private static void p07_behindEight() {
    faulty(CALM + EIGHT + "x", 53, 1);
    faulty(CALM + EIGHT + "k", 53, 1);
    faulty(CALM + EIGHT + "1", 53, 1);
    faulty(CALM + EIGHT + ";", 53, 1);
    reads(CALM + EIGHT + "a10,0;", 1);
  }

  // { parish }: none is fine
  private static void p07_noParish() {
    CloudHerd x = Due.told(CALM + "a0,0;");
    Due.is("parishes", x.count(2), 0);
    for (int cell = 0; cell < 32; cell++) {
      Due.is("parish of " + cell, x.cell(cell, 0), 0);
    }
  }

  // each ends with its sign
  private static void p07_parishSigns() {
    faulty(CALM + "f1,", 23, 1);
    faulty(CALM + "f1f2;", 23, 1);
    faulty(CALM + "f;", 22, 1);
    faulty(CALM + "ff", 22, 1);
  }

  // { parish } { cloud }: a parish cannot stand behind a cloud
  private static void p07_parishBehindCloud() {
    faulty(CALM + "a0,0;f1;", 26, 1);
    faulty(CALM + EIGHT + "a0,0;f1;", 58, 1);
  }

  // ---- promise 7: clouds

  // "a CELL 0 to 31"
  private static void p07_cloudCell() {
    for (char letter : "apbgy".toCharArray()) {
      reads(CALM + letter + "0,0;", 1);
      reads(CALM + letter + "31,0;", 1);
      faulty(CALM + letter + "32,0;", 22, 2);
      faulty(CALM + letter + "99,0;", 22, 2);
    }
  }

  // "a CELL .. without a CLOUD"
  private static void p07_cloudCellOnce() {
    faulty(CALM + "a0,0;a0,0;", 27, 2);
    faulty(CALM + "a31,0;g31,0;", 28, 2);
    faulty(CALM + "a7,0;p07,0;", 27, 2);
    faulty(CALM + "a0,0;a1,0;a2,0;a3,0;a0,0;", 42, 2);
    reads(CALM + "a0,0;a31,0;a1,0;a30,0;", 4);
  }

  // a parish there is no matter
  private static void p07_cloudOverParish() {
    reads(CALM + "f0;a0,0;", 1);
    reads(CALM + EIGHT + FIVE, 5);
  }

  // WATER "0 to 20"
  private static void p07_water() {
    for (int water : new int[] {0, 1, 20}) {
      CloudHerd x = Due.told(CALM + "a0," + water + ";");
      Due.is("water", x.cloud(0, 2), water);
    }
    faulty(CALM + "a0,21;", 24, 2);
    faulty(CALM + "a0,99;", 24, 2);
  }

  // "CLOUDS 0 .. 4, 5 at most"; "3 .. a cloud more than there is room for (its letter)"
  private static void p07_fiveClouds() {
    reads(CALM + FIVE, 5);
    for (char letter : "apbgy".toCharArray()) {
      faulty(CALM + FIVE + letter + "0,0;", 56, 3);
      // whatever stands behind its letter
      faulty(CALM + FIVE + letter, 56, 3);
      faulty(CALM + FIVE + letter + "10,99;", 56, 3);
      faulty(CALM + FIVE + letter + "99,0;", 56, 3);
    }
  }

  // behind five, what cannot stand there is 1
  private static void p07_behindFive() {
    faulty(CALM + FIVE + "f", 56, 1);
    faulty(CALM + FIVE + "x", 56, 1);
    faulty(CALM + FIVE + "0", 56, 1);
    faulty(CALM + FIVE + ";", 56, 1);
    faulty(CALM + FIVE + (char) 0, 56, 1);
  }

  // { cloud }: none is fine, "how many CLOUDS there are"
  private static void p07_howManyClouds() {
    String[] clouds = {"a1,0;", "p2,0;", "b3,0;", "g4,0;", "y5,0;"};
    String text = CALM;
    reads(text, 0);
    for (int k = 0; k < 5; k++) {
      text += clouds[k];
      reads(text, k + 1);
    }
  }

  // each has its signs
  private static void p07_cloudSigns() {
    faulty(CALM + "a0;", 23, 1);
    faulty(CALM + "a,0;", 22, 1);
    faulty(CALM + "a0,;", 24, 1);
    faulty(CALM + "a0,0,", 25, 1);
    faulty(CALM + "a0,0p", 25, 1);
    faulty(CALM + "ap", 22, 1);
  }

  // ---- promise 7: faults

  // "the first TOKEN that has one"
  private static void p07_firstToken() {
    faulty("k0,99;", 1, 2);
    faulty("k1,99;loooooo;xx", 3, 2);
    faulty(CALM + "f32;f1;f1;", 22, 2);
    faulty(CALM + "a32,21;", 22, 2);
    faulty(CALM + "a0,21,", 24, 2);
    faulty(CALM + "a0,0,99", 25, 1);
    faulty(CALM + "f1;f1,", 25, 2);
  }

  // "of one TOKEN the least": a number that is not as told, where none can stand
  private static void p07_leastFault() {
    faulty("99", 0, 1);
    faulty("k1,0;l99", 6, 1);
    faulty("k1,0;99", 5, 1);
    faulty(CALM + "32;", 21, 1);
    // three figures are none, however large
    faulty("k100,0;", 1, 1);
    faulty(CALM + "f032;", 22, 1);
  }

  // "(its first byte)": of a number of two figures
  private static void p07_firstByte() {
    faulty("k10,0;", 1, 2);
    faulty(CALM + "a31,21;", 25, 2);
    faulty(CALM + "a31,20;a30,21;", 32, 2);
  }

  // "The tape, empty then": without a fault, and with one
  private static void p07_emptyThen() {
    CloudHerd x = new CloudHerd();
    Due.tell(x, CALM);
    Due.is("read", x.count(8), 0);
    Due.is("the tape again", x.feed('k'), 1);
    x.herd();
    Due.is("with a fault", x.count(8), 0);
    Due.is("an empty tape", x.herd(), -1000100);
    Due.is("an empty tape", x.count(8), 0);
  }

  // what stood on the tape before is not read again
  private static void p07_notReadAgain() {
    CloudHerd x = new CloudHerd();
    Due.is("longer", Due.tell(x, CALM + "f1;a1,1;"), 1);
    Due.is("shorter", Due.tell(x, CALM + "f1;"), 0);
    Due.is("a number that went on", Due.tell(x, "k1,0;looo"), -1000109);
    Due.is("two figures", Due.tell(x, "k19"), -1000101);
    Due.is("one figure", Due.tell(x, "k1"), -1000102);
  }

  // "-1000100 less the place of a FAULT: all stays"
  private static void p07_allStays() {
    String[] faulty = {"", "k9,9", CALM.substring(0, 20), CALM + "h0;h0", CALM + "b0,7;b1,21",
      CALM + "x"};
    for (String text : faulty) {
      CloudHerd x = Edges.busy();
      x.herd();
      String before = Due.seen(x);
      Due.is("a fault of " + text, Due.tell(x, text) <= -1000100 ? 1 : 0, 1);
      Due.same("all stays by " + text, Due.seen(x), before);
      Due.is("trace", x.trace(0), 12);
      Due.is("acts", x.undo(), 1);
      Due.is("acts", x.undo(), 0);
    }
  }

  // images and rows stay, by a fault and by a herd that is read
  private static void p07_imagesAndRowsStay() {
    for (String text : new String[] {"k", CALM}) {
      CloudHerd x = Edges.busy();
      x.herd();
      Due.tell(x, text);
      Due.is("rows", x.count(0), 8);
      Due.is("items", x.drop(7), 12);
      Due.is("image", x.restore(1), 1);
      Due.is("clouds of it", x.count(1), 5);
    }
  }

  // without a herd before, there is none behind a fault
  private static void p07_noneStaysNone() {
    CloudHerd x = new CloudHerd();
    Due.tell(x, CALM + "a0,1;a1,1");
    Due.is("clouds", x.count(1), 0);
    Due.is("cell", x.cell(0, 0), STATE);
    Due.is("cloud", x.cloud(0, 0), BAD);
  }

  // "A HERD that is read stands in place of the one before"
  private static void p07_inPlace() {
    CloudHerd x = Edges.busy();
    x.herd();
    Due.is("another", Due.tell(x, "k3,2;lowesnn;unnsewo;h9;p7,4;"), 1);
    Due.is("clouds", x.count(1), 1);
    Due.is("parishes", x.count(2), 1);
    Due.is("a parish of the one before", x.cell(1, 0), 0);
    Due.is("its own", x.cell(9, 0), 2);
    Due.is("a cloud of the one before", x.cloud(1, 0), BAD);
    Due.is("kind", x.kind(0), 2);
    Due.is("cell", x.cloud(0, 0), 7);
    Due.is("water", x.cloud(0, 2), 4);
    Due.is("low", x.wind(0, 5), 4);
    Due.is("high", x.wind(1, 5), 0);
    Due.is("one without a cloud", Due.tell(x, CALM), 0);
    Due.is("clouds", x.count(1), 0);
    Due.is("parishes", x.count(2), 0);
  }

  // of the parishes before none is left, over the first and the last CELL neither
  private static void p07_noParishIsLeft() {
    CloudHerd x = Due.told(CALM + "f0;h31;m1;f30;");
    Due.tell(x, CALM);
    for (int cell = 0; cell < 32; cell++) {
      Due.is("parish of " + cell, x.cell(cell, 0), 0);
    }
  }

  // "HOUR 0, each CLOUD is low (HEIGHT 0), told to rain; EARNED, MILK are 0; no ACT can be undone"
  private static void p07_asItBegins() {
    CloudHerd x = Due.told("k1,0;loooooo;uoooooo;f0;m1;a0,9;p1,9;a2,9;g10,9;a9,9;");
    x.hours(2);
    x.lift(0, 1);
    x.rains(0, 0);
    x.rains(1, 0);
    Due.is("earned before", x.count(4), 2);
    Due.is("milk before", x.count(5), 2);
    // nothing of what was foretold is left, either
    Due.is("foretold", x.ahead(0, 2, 1), 1);
    Due.tell(x, CALM + "a0,9;p1,9;a2,9;g10,9;a9,9;");
    for (int cloud = 0; cloud < 5; cloud++) {
      Due.is("height", x.cloud(cloud, 1), 0);
      Due.is("gone", x.cloud(cloud, 3), 0);
      Due.is("told", x.cloud(cloud, 4), 1);
    }
    Due.is("hour", x.count(3), 0);
    Due.is("earned", x.count(4), 0);
    Due.is("milk", x.count(5), 0);
    Due.is("not gone", x.count(6), 5);
    Due.is("acts", x.count(7), 0);
    Due.is("undo", x.undo(), STATE);
  }

  // one that was GONE is not, in the next herd
  private static void p07_goneNoMore() {
    CloudHerd x = Due.told("k1,0;leooooo;uoooooo;g1,1;a0,1;");
    x.hours(1);
    Due.is("gone", x.cloud(1, 3), 1);
    Due.is("foretold", x.ahead(1, 1, 3), 1);
    Due.tell(x, CALM + "g1,1;a0,1;");
    Due.is("not gone", x.cloud(1, 3), 0);
    Due.is("not gone", x.count(6), 2);
  }

  // ---- promise 8

  // "0 before one", also behind a herd without
  private static void p08_beforeOne() {
    CloudHerd x = new CloudHerd();
    Due.is("at first", x.fault(), 0);
    x.feed('x');
    Due.is("not read yet", x.fault(), 0);
    CloudHerd y = Due.told(CALM);
    Due.is("without one", y.fault(), 0);
  }

  // "The number of the latest FAULT"
  private static void p08_latest() {
    CloudHerd x = new CloudHerd();
    Due.tell(x, CALM + FIVE + "a");
    Due.is("3", x.fault(), 3);
    Due.tell(x, "k0");
    Due.is("2", x.fault(), 2);
    Due.tell(x, "k1");
    Due.is("1", x.fault(), 1);
    Due.tell(x, CALM + EIGHT + "f");
    Due.is("3 again", x.fault(), 3);
    Due.tell(x, CALM);
    Due.is("a herd without one leaves it", x.fault(), 3);
    x.feed(256);
    x.hours(0);
    Due.is("what is refused leaves it", x.fault(), 3);
  }
}

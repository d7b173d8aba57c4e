/** Promises 16 to 29, and part 3: each sentence that names an edge, alone. */
public final class EdgesForetoldTest {
  private static final int NONE = Edges.NONE, BAD = Edges.BAD, STATE = Edges.STATE;
  private static final int NULL = Edges.NULL;
  private static final String CALM = Edges.CALM;
  /** East once in six hours, at the last place: behind hours 5, 11, .. 41 a cell farther. */
  private static final String SLOW = "k7,3;loooooe;uoooooo;";
  /** East, then west, and again. */
  private static final String TO_AND_FRO = "k1,0;lewewew;uoooooo;";

  public static void main(String[] args) throws Exception {
    Edges.run(EdgesForetoldTest.class, 16, 17, 18, 19, 20, 21, 22, 23, 24, 25, 26, 27, 28, 29);
  }

  /** Cloud 1, a white one, is GONE. */
  private static CloudHerd withGone() {
    CloudHerd x = Due.told("k1,0;leooooo;uoooooo;g1,9;a0,9;");
    x.hours(1);
    return x;
  }

  private static void noHerd(String what, Edges.Call call) {
    Edges.refuses(what + " without a herd", new CloudHerd(), STATE, call);
  }

  /** To HOUR 999, the last; its place of six is 3. */
  private static CloudHerd toTheLast(CloudHerd x) {
    for (int k = 0; k < 41; k++) {
      x.hours(24);
    }
    x.hours(15);
    return x;
  }

  // ---- promise 16

  // BAD: there is no such CLOUD
  private static void p16_cloud() {
    Edges.takesClouds((x, v) -> x.ahead(v, 0, 0));
  }

  // "by n HOURS (0 to 60)"
  private static void p16_n() {
    Edges.takes("n", 0, 60, (x, v) -> x.ahead(0, v, 0));
  }

  // BAD: 0 to 3; what it is told is not foretold
  private static void p16_what() {
    Edges.takes("what", 0, 3, (x, v) -> x.ahead(0, 0, v));
  }

  // 0 HOURS: as it is
  private static void p16_none() {
    CloudHerd x = Due.told(TO_AND_FRO + "a9,7;");
    x.lift(0, 1);
    int[] due = {9, 1, 5, 0};
    for (int what = 0; what <= 3; what++) {
      Due.is("as it is " + what, x.ahead(0, 0, what), due[what]);
    }
  }

  // 60 HOURS, and just one less
  private static void p16_sixty() {
    CloudHerd x = Due.told(TO_AND_FRO + "p0,7;");
    Due.is("1", x.ahead(0, 1, 0), 1);
    Due.is("59", x.ahead(0, 59, 0), 1);
    Due.is("60", x.ahead(0, 60, 0), 0);
  }

  // beyond HOUR 999
  private static void p16_beyondTheLast() {
    CloudHerd x = toTheLast(Due.told(TO_AND_FRO + "p0,7;"));
    Due.is("now", x.ahead(0, 0, 0), 1);
    Due.is("1", x.ahead(0, 1, 0), 0);
    Due.is("59", x.ahead(0, 59, 0), 0);
    Due.is("60", x.ahead(0, 60, 0), 1);
  }

  // "whether it is GONE": in the HOUR, not ahead of it
  private static void p16_gone() {
    CloudHerd x = Due.told(SLOW + "p0,3;g1,20;");
    Due.is("behind 5", x.ahead(1, 5, 3), 0);
    Due.is("behind 6", x.ahead(1, 6, 3), 1);
    Due.is("its water behind 5", x.ahead(1, 5, 2), 15);
    Due.is("its water behind 6", x.ahead(1, 6, 2), 0);
    Due.is("the other's behind 5", x.ahead(0, 5, 2), 3);
    Due.is("the other's behind 6", x.ahead(0, 6, 2), 18);
  }

  // of one that is GONE already it is no STATE
  private static void p16_goneAlready() {
    int[] due = {1, 0, 0, 1};
    for (int what = 0; what <= 3; what++) {
      Due.is("gone " + what, withGone().ahead(1, 60, what), due[what]);
    }
  }

  // WATER: 40 at most, 0 at least
  private static void p16_water() {
    CloudHerd x = Due.told("k1,0;leooooo;uoooooo;b0,20;g1,20;g9,20;y2,20;");
    Due.is("40, less rain", x.ahead(0, 1, 2), 38);
    Due.is("19 hours later", x.ahead(0, 19, 2), 2);
    Due.is("20 hours later", x.ahead(0, 20, 2), 0);
    Due.is("60 hours later", x.ahead(0, 60, 2), 0);
  }

  // ---- promise 17

  // "0 to 60"
  private static void p17_n() {
    Edges.takes("n", 0, 60, (x, v) -> x.earned(v));
  }

  // "STATE: no HERD (ahead of BAD)"
  private static void p17_noHerd() {
    noHerd("0", (x, v) -> x.earned(0));
    noHerd("61", (x, v) -> x.earned(61));
    noHerd("-1", (x, v) -> x.earned(-1));
  }

  // what there is, and what comes within n, the 60th too
  private static void p17_byThen() {
    // over the field from hour 41 on
    CloudHerd x = Due.told(SLOW + "f7;a0,20;");
    Due.is("0", x.earned(0), 0);
    Due.is("41", x.earned(41), 0);
    Due.is("42", x.earned(42), 7);
    Due.is("59", x.earned(59), 18 * 7);
    Due.is("60", x.earned(60), 19 * 7);
    x.hours(24);
    x.hours(19);
    Due.is("two gone", x.earned(0), 14);
    Due.is("all that is left", x.earned(60), 140);
  }

  // beyond HOUR 999
  private static void p17_beyondTheLast() {
    CloudHerd x = Due.told("k7,3;loooooo;uoooooo;f0;a0,9;");
    x.rains(0, 0);
    toTheLast(x);
    x.rains(0, 1);
    Due.is("now", x.earned(0), 0);
    Due.is("then", x.earned(1), 7);
    Due.is("60", x.earned(60), 63);
  }

  // less than 0
  private static void p17_less() {
    CloudHerd x = Due.told("k7,3;loooooo;uoooooo;h0;b0,3;");
    Due.is("1", x.earned(1), -6);
    Due.is("2", x.earned(2), -9);
    Due.is("60", x.earned(60), -9);
  }

  // ---- promise 18

  // "the next n HOURS (1 to 60 ..)"
  private static void p18_n() {
    Edges.takes("n", 1, 60, (x, v) -> x.knot(v, 0));
    Edges.takes("n", 1, 60, (x, v) -> x.knot(v, 1));
  }

  // "when (what = 0), who (1)"
  private static void p18_what() {
    Edges.takes("what", 0, 1, (x, v) -> x.knot(1, v));
  }

  // "STATE: no HERD (ahead of BAD)"
  private static void p18_noHerd() {
    noHerd("as told", (x, v) -> x.knot(1, 0));
    noHerd("n 0", (x, v) -> x.knot(0, 0));
    noHerd("n 61", (x, v) -> x.knot(61, 0));
    noHerd("what 2", (x, v) -> x.knot(1, 2));
  }

  // "(.. 0 on)": the first of the next is 0
  private static void p18_zeroOn() {
    CloudHerd x = Due.told("k1,0;leooooo;uoooooo;p0,1;g1,1;");
    Due.is("when", x.knot(1, 0), 0);
    Due.is("who", x.knot(1, 1), 2);
  }

  // the last of the n HOURS is among them, the next is not
  private static void p18_last() {
    CloudHerd x = Due.told(SLOW + "p0,1;p1,1;");
    Due.is("41", x.knot(41, 0), NONE);
    Due.is("41", x.knot(41, 1), NONE);
    Due.is("42", x.knot(42, 0), 41);
    Due.is("42", x.knot(42, 1), 2);
    Due.is("60", x.knot(60, 0), 41);
  }

  // "NONE": never, also of one CLOUD, of none
  private static void p18_none() {
    for (String clouds : new String[] {"p0,1;p9,1;", "p0,1;", ""}) {
      Due.is("when", Due.told(SLOW + clouds).knot(60, 0), NONE);
      Due.is("who", Due.told(SLOW + clouds).knot(60, 1), NONE);
    }
  }

  // "the first": of two
  private static void p18_first() {
    CloudHerd x = Due.told(SLOW + "p0,1;g1,1;g2,1;");
    Due.is("when", x.knot(60, 0), 5);
    Due.is("who", x.knot(60, 1), 2);
  }

  // "who is GONE by it (bits)": all of that HOUR, the last cloud too, and none from before
  private static void p18_who() {
    CloudHerd x = Due.told("k1,0;leeoooo;uoooooo;g1,1;p0,1;p24,1;g10,1;p9,1;");
    Due.is("two at once", x.knot(1, 1), 2 | 16);
    CloudHerd y = Due.told("k1,0;leeoooo;uoooooo;p0,1;g1,1;g2,1;");
    y.hours(1);
    Due.is("1 is gone before", y.cloud(1, 3), 1);
    Due.is("2 alone", y.knot(1, 1), 4);
    Due.is("from now on", y.knot(1, 0), 0);
  }

  // one that is GONE runs together with none
  private static void p18_goneNoMore() {
    Due.is("none is left", withGone().knot(60, 0), NONE);
  }

  // beyond HOUR 999
  private static void p18_beyondTheLast() {
    CloudHerd x = Due.told("k1,0;loooooe;uoooooo;p6,9;p7,9;");
    x.lift(0, 1);
    toTheLast(x);
    x.lift(0, 0);
    Due.is("not in 2", x.knot(2, 0), NONE);
    Due.is("in HOUR 1001, place 5", x.knot(60, 0), 2);
  }

  // ---- promise 19

  // "the next n" (1 to 60)
  private static void p19_n() {
    Edges.takes("n", 1, 60, (x, v) -> x.wetHay(v, 0));
    Edges.takes("n", 1, 60, (x, v) -> x.wetHay(v, 1));
  }

  // "when (what = 0; NONE), how much (1)"
  private static void p19_what() {
    Edges.takes("what", 0, 1, (x, v) -> x.wetHay(1, v));
  }

  // "STATE: no HERD (ahead of BAD)"
  private static void p19_noHerd() {
    noHerd("as told", (x, v) -> x.wetHay(1, 0));
    noHerd("n 0", (x, v) -> x.wetHay(0, 0));
    noHerd("n 61", (x, v) -> x.wetHay(61, 0));
    noHerd("what 2", (x, v) -> x.wetHay(1, 2));
  }

  // the last of the n HOURS is among them, the next is not
  private static void p19_last() {
    // the stray is over 4 in hour 17, with 20 less 17
    CloudHerd x = Due.told("k7,3;loooooe;uoooooo;h4;y7,20;");
    Due.is("17", x.wetHay(17, 0), NONE);
    Due.is("17", x.wetHay(17, 1), 0);
    Due.is("18", x.wetHay(18, 0), 17);
    Due.is("18", x.wetHay(18, 1), 3);
    Due.is("60", x.wetHay(60, 0), 17);
    Due.is("three in all", x.wetHay(60, 1), 9);
  }

  // the 60th, too: a dry fog gets WATER in hour 41, and has some yet in hour 59
  private static void p19_sixtieth() {
    CloudHerd x = Due.told("k7,3;loooooe;uoooooo;h7;g7,0;p0,20;");
    Due.is("41", x.wetHay(41, 0), NONE);
    Due.is("42", x.wetHay(42, 0), 41);
    Due.is("42", x.wetHay(42, 1), 3);
    Due.is("59", x.wetHay(59, 1), 18 * 3);
    Due.is("60", x.wetHay(60, 1), 19 * 3);
  }

  // it rains as long as there is WATER: 40 at most
  private static void p19_howLong() {
    CloudHerd x = Due.told("k7,3;leooooo;uoooooo;h9;g9,20;p8,20;");
    Due.is("0 on", x.wetHay(1, 0), 0);
    Due.is("1", x.wetHay(1, 1), 3);
    Due.is("39", x.wetHay(39, 1), 39 * 3);
    Due.is("40", x.wetHay(40, 1), 120);
    Due.is("41", x.wetHay(41, 1), 120);
    Due.is("60", x.wetHay(60, 1), 120);
  }

  // "in which it rains over hay": not where there is no WATER
  private static void p19_noWater() {
    for (String clouds : new String[] {"b0,0;g1,0;", "a0,9;p1,9;", "", "b2,9;"}) {
      CloudHerd x = Due.told("k7,3;loooooo;uoooooo;h0;h1;" + clouds);
      Due.is("when", x.wetHay(60, 0), NONE);
      Due.is("how much", x.wetHay(60, 1), 0);
    }
  }

  // FINE 0: it rains all the same
  private static void p19_fineNone() {
    CloudHerd x = Due.told("k7,0;loooooo;uoooooo;h0;b0,9;");
    Due.is("when", x.wetHay(1, 0), 0);
    Due.is("how much", x.wetHay(60, 1), 0);
  }

  // "how much EARNED is less by hay": PAY is of no matter; "a number 0 or more"
  private static void p19_byHayAlone() {
    CloudHerd x = Due.told("k7,9;loooooo;uoooooo;h0;h1;f2;b0,3;g1,20;g2,20;");
    Due.is("6 and 3 of 9", x.wetHay(1, 1), 27);
    Due.is("3 of water, and 20", x.wetHay(60, 1), 23 * 9);
    Due.is("fields", x.earned(60), 20 * 7 - 23 * 9);
  }

  // "the next n": what was before is not counted
  private static void p19_fromNowOn() {
    CloudHerd x = Due.told("k7,3;loooooo;uoooooo;h0;b0,5;");
    x.hours(2);
    Due.is("the last 1", x.wetHay(60, 1), 3);
    x.hours(1);
    Due.is("no more", x.wetHay(60, 1), 0);
    Due.is("no more", x.wetHay(60, 0), NONE);
  }

  // ---- promise 20

  // BAD: there is no such CLOUD
  private static void p20_cloud() {
    Edges.takesClouds((x, v) -> x.soon(v, 0));
  }

  // BAD: a CELL
  private static void p20_cell() {
    Edges.takes("cell", 0, 31, (x, v) -> x.soon(0, v));
  }

  // "STATE: it is GONE"; BAD is ahead of it
  private static void p20_gone() {
    Edges.refuses("gone", withGone(), STATE, (x, v) -> x.soon(1, 0));
    Edges.refuses("where it was", withGone(), STATE, (x, v) -> x.soon(1, 1));
    Edges.refuses("bad", withGone(), BAD, (x, v) -> x.soon(1, 32));
    Edges.refuses("bad", withGone(), BAD, (x, v) -> x.soon(1, -1));
  }

  // "(0 to 24)": 0 where it is, at both ends of the cells
  private static void p20_whereItIs() {
    Due.is("cell 0", Due.told(CALM + "a0,1;").soon(0, 0), 0);
    Due.is("cell 31", Due.told(CALM + "a31,1;").soon(0, 31), 0);
    Due.is("not in 24", Due.told(CALM + "a31,1;").soon(0, 30), NONE);
    Due.is("nor over the first", Due.told(CALM + "a31,1;").soon(0, 0), NONE);
    Due.is("nor over the last", Due.told(CALM + "a0,1;").soon(0, 31), NONE);
  }

  // at the edge of the CELLS it stays: from no corner it comes round to another side
  private static void p20_corners() {
    String letters = "ewsn";
    int[][] steps = {{1, 0}, {-1, 0}, {0, 1}, {0, -1}};
    for (int corner : new int[] {0, 7, 24, 31}) {
      for (int way = 0; way < 4; way++) {
        String six = letters.substring(way, way + 1).repeat(6);
        for (String winds : new String[] {"l" + six + ";uoooooo;", "loooooo;u" + six + ";"}) {
          CloudHerd x = Due.told("k1,0;" + winds + "a" + corner + ",1;");
          int[] due = new int[32];
          java.util.Arrays.fill(due, NONE);
          int column = corner % 8;
          int line = corner / 8;
          for (int k = 0; column >= 0 && column < 8 && line >= 0 && line < 4; k++) {
            due[8 * line + column] = k;
            column += steps[way][0];
            line += steps[way][1];
          }
          for (int cell = 0; cell < 32; cell++) {
            Due.is(winds + " from " + corner + " to " + cell, x.soon(0, cell), due[cell]);
          }
        }
      }
    }
  }

  // "(0 to 24)": 24, and not 25
  private static void p20_twentyFour() {
    CloudHerd last = Due.told("k1,0;loooooe;uoooooo;a0,1;");
    Due.is("behind 18", last.soon(0, 3), 18);
    Due.is("behind 24", last.soon(0, 4), 24);
    Due.is("behind 30", last.soon(0, 5), NONE);
    CloudHerd first = Due.told("k1,0;leooooo;uoooooo;a0,1;");
    Due.is("behind 19", first.soon(0, 4), 19);
    Due.is("behind 25", first.soon(0, 5), NONE);
    // an hour later that is 24
    first.lift(0, 1);
    first.hours(1);
    Due.is("behind 24", first.soon(0, 4), 24);
    Due.is("behind 30", first.soon(0, 5), NONE);
  }

  // "ahead of each it is lifted, let down, or not": of the first, too
  private static void p20_lifted() {
    CloudHerd x = Due.told("k1,0;leeeeee;ussssss;a0,1;");
    Due.is("low at once", x.soon(0, 1), 1);
    Due.is("high at once", x.soon(0, 8), 1);
    Due.is("7 and 3", x.soon(0, 31), 10);
    x.lift(0, 1);
    Due.is("let down at once", x.soon(0, 1), 1);
    Due.is("high as it is", x.soon(0, 8), 1);
  }

  // "of no matter: WATER"
  private static void p20_noWater() {
    CloudHerd x = Due.told("k1,0;loooooo;usesese;a0,0;");
    Due.is("lifted without", x.soon(0, 8), 1);
    Due.is("often", x.soon(0, 9), 2);
  }

  // "a fog, a stray is low only"
  private static void p20_lowOnly() {
    CloudHerd x = Due.told("k1,0;leooooo;usnsnsn;g9,1;y18,1;a27,1;");
    Due.is("fog", x.soon(0, 9), 0);
    Due.is("fog, east", x.soon(0, 10), NONE);
    Due.is("fog, south", x.soon(0, 17), NONE);
    Due.is("stray, west", x.soon(1, 17), 1);
    Due.is("stray, not east", x.soon(1, 19), NONE);
    Due.is("stray, not north", x.soon(1, 10), NONE);
    Due.is("stray, not south", x.soon(1, 26), NONE);
    Due.is("white, north", x.soon(2, 19), 2);
  }

  // ALONE: another in its way is of no matter
  private static void p20_alone() {
    CloudHerd x = Due.told("k1,0;leeeeee;uoooooo;g1,1;a0,1;");
    Due.is("through", x.soon(1, 3), 3);
  }

  // beyond HOUR 999; the winds come again
  private static void p20_beyondTheLast() {
    CloudHerd x = Due.told("k1,0;loonooo;uooeooo;p8,9;");
    toTheLast(x);
    Due.is("where it is", x.soon(0, 0), 0);
    Due.is("place 2 is 5 hours on", x.soon(0, 1), 6);
  }

  // ---- promise 21

  // BAD: there is no such CLOUD
  private static void p21_cloud() {
    Edges.takesClouds((x, v) -> x.heights(v, 1, 0));
  }

  // "for n HOURS (1 to 8)"
  private static void p21_n() {
    Edges.takes("n", 1, 8, (x, v) -> x.heights(0, v, 0));
    Edges.takes("n", 1, 8, (x, v) -> x.heights(0, v, 1));
  }

  // "bits (what = 0), how much (1)"
  private static void p21_what() {
    Edges.takes("what", 0, 1, (x, v) -> x.heights(0, 1, v));
  }

  // "STATE: it is GONE"; BAD is ahead of it
  private static void p21_gone() {
    Edges.refuses("gone", withGone(), STATE, (x, v) -> x.heights(1, 1, 0));
    Edges.refuses("n 0", withGone(), BAD, (x, v) -> x.heights(1, 0, 0));
    Edges.refuses("n 9", withGone(), BAD, (x, v) -> x.heights(1, 9, 0));
    Edges.refuses("what 2", withGone(), BAD, (x, v) -> x.heights(1, 1, 2));
  }

  private static void best(String text, int n, int bits, int much) {
    CloudHerd x = Due.told(text);
    Due.is("bits of " + text + " for " + n, x.heights(0, n, 0), bits);
    Due.is("how much of " + text + " for " + n, x.heights(0, n, 1), much);
  }

  // "(bit 0: the first HOUR)"
  private static void p21_firstHour() {
    best("k7,3;loooooo;ueeeeee;f1;a0,3;", 1, 1, 7);
    best("k7,3;leeeeee;uoooooo;f1;a0,3;", 1, 0, 7);
  }

  // bit 7: the last of 8; a lift in hour 1 and one in hour 7
  private static void p21_lastHour() {
    String text = "k7,3;loooooo;uoeoooo;f2;a0,5;";
    best(text, 7, 0, 0);
    best(text, 8, 2 | 128, 7);
  }

  // with less WATER it must not be let down between: a lift is 2 WATER less, 0 at least
  private static void p21_fewLifts() {
    best("k7,3;loooooo;uoeoooo;f2;a0,4;", 8, 254, 7);
    best("k7,3;loooooo;uoeoooo;f2;a0,3;", 8, 254, 7);
    best("k7,3;loooooo;uoeoooo;f2;a0,2;", 8, 0, 0);
    best("k7,3;loooooo;uoeoooo;f2;a0,0;", 8, 0, 0);
  }

  // "of several the least"
  private static void p21_least() {
    best("k7,3;loooooo;uoooooo;f0;a0,0;", 8, 0, 0);
    best("k7,3;loooooo;uoooooo;p0,20;", 8, 0, 0);
    // high in any one of two
    best("k7,3;loooooo;ueeoooo;f1;h2;a0,3;", 2, 1, 7);
    best("k7,3;loooooo;uooeeoo;f1;a0,3;", 4, 4, 7);
  }

  // a loss, too: the least of losses
  private static void p21_loss() {
    best("k7,3;loooooo;uoooooo;h0;b0,9;", 1, 0, -6);
    best("k7,3;loooooo;uoooooo;h0;b0,3;", 1, 1, -3);
    best("k7,3;loooooo;uoooooo;h0;b0,2;", 1, 1, 0);
  }

  // "a fog, a stray: always 0; how much that is"
  private static void p21_fogAndStray() {
    best("k7,3;loooooo;ueeeeee;h0;f1;g0,20;", 8, 0, -24);
    best("k7,3;loooooo;uwwwwww;h0;f1;y0,20;", 8, 0, -24);
    best("k7,3;loooooo;uoooooo;f0;y0,7;", 8, 0, 49);
    best("k7,3;loooooo;uoooooo;f0;y0,8;", 8, 0, 56);
    best("k7,3;loooooo;uoooooo;f0;y0,9;", 8, 0, 56);
  }

  // "lifted, let down, as it must": from on high no lift is needed
  private static void p21_fromOnHigh() {
    CloudHerd x = Due.told("k7,3;loooooo;ueooooo;f1;a0,3;");
    x.lift(0, 1);
    Due.is("water", x.cloud(0, 2), 1);
    Due.is("high without a lift", x.heights(0, 1, 1), 7);
    Due.is("high", x.heights(0, 1, 0), 1);
    CloudHerd y = Due.told("k7,3;leooooo;uoooooo;f1;a0,3;");
    y.lift(0, 1);
    Due.is("let down for nothing", y.heights(0, 1, 1), 7);
    Due.is("low", y.heights(0, 1, 0), 0);
  }

  // "most is EARNED in them": not what was before
  private static void p21_inThem() {
    CloudHerd x = Due.told("k7,3;loooooo;uoooooo;f0;a0,9;");
    x.hours(5);
    Due.is("4 of 35", x.heights(0, 8, 1), 28);
  }

  // ALONE: none runs together with it; hills take WATER
  private static void p21_alone() {
    CloudHerd x = Due.told("k7,3;leooooo;uoooooo;f1;g1,9;a0,9;");
    Due.is("its own", x.heights(1, 6, 1), 42);
    Due.is("9, of which a lift takes 2", x.heights(1, 8, 1), 49);
    best("k7,3;lowoooo;uoooooo;m1;f0;a1,2;", 2, 0, 7);
    best("k7,3;lowoooo;uoooooo;m1;f0;a1,1;", 2, 0, 0);
    best("k7,3;loowooo;uoooooo;m1;f0;a1,2;", 3, 0, 0);
    best("k7,3;loowooo;uoooooo;m1;f0;a1,3;", 3, 0, 7);
  }

  // told not to rain, it earns nothing
  private static void p21_toldNotTo() {
    CloudHerd x = Due.told("k7,3;loooooo;uoooooo;f0;a0,9;");
    x.rains(0, 0);
    Due.is("how much", x.heights(0, 8, 1), 0);
  }

  // beyond HOUR 999, the six places come again
  private static void p21_beyondTheLast() {
    // place 2 is 5 hours on
    CloudHerd x = Due.told("k7,3;loooooo;uooeooo;f1;a0,20;");
    toTheLast(x);
    Due.is("5", x.heights(0, 5, 0), 0);
    Due.is("6", x.heights(0, 6, 0), 32);
    Due.is("6", x.heights(0, 6, 1), 7);
  }

  // ---- promise 22

  // BAD: a CELL
  private static void p22_cell() {
    Edges.takes("cell", 0, 31, (x, v) -> x.shade(v, 1));
  }

  // "the next n HOURS (1 to 24)"
  private static void p22_n() {
    Edges.takes("n", 1, 24, (x, v) -> x.shade(0, v));
  }

  // "STATE: no HERD (ahead of BAD)"
  private static void p22_noHerd() {
    noHerd("as told", (x, v) -> x.shade(0, 1));
    noHerd("cell 32", (x, v) -> x.shade(32, 1));
    noHerd("n 0", (x, v) -> x.shade(0, 0));
    noHerd("n 25", (x, v) -> x.shade(0, 25));
  }

  // bit 0: the first, bit 23: the last of 24
  private static void p22_firstAndLast() {
    CloudHerd x = Due.told(SLOW + "p0,1;");
    Due.is("one", x.shade(0, 1), 1);
    Due.is("as long as it is there", x.shade(0, 24), 0b11111);
    Due.is("from 5 to 10", x.shade(1, 24), 0b11111100000);
    Due.is("23", x.shade(4, 23), 0);
    Due.is("24", x.shade(4, 24), 1 << 23);
    Due.is("not yet", x.shade(5, 24), 0);
    Due.is("all", Due.told(CALM + "g31,0;").shade(31, 24), 0xFFFFFF);
    Due.is("all but one", Due.told(CALM + "g31,0;").shade(31, 23), 0x7FFFFF);
  }

  // "behind the drift, runs done": not where it is ahead of it, and none that is GONE
  private static void p22_behindTheDrift() {
    CloudHerd x = Due.told("k1,0;leeoooo;uoooooo;g1,1;a0,1;");
    Due.is("where it was", x.shade(0, 24), 0);
    Due.is("where it would be", x.shade(2, 24), 0);
    Due.is("of one that is gone", withGone().shade(2, 24), 0);
  }

  // "any CLOUD": the last of five, one on high
  private static void p22_any() {
    CloudHerd x = Due.told("k1,0;loooooo;uwooooo;a0,9;p2,1;b3,1;g4,1;y5,1;");
    Due.is("the last", x.shade(5, 2), 3);
    x.lift(1, 1);
    Due.is("on high", x.shade(1, 2), 3);
    Due.is("no more", x.shade(2, 2), 0);
  }

  // without a CLOUD there is none
  private static void p22_noCloud() {
    Due.is("none", Due.told(CALM).shade(0, 24), 0);
  }

  // beyond HOUR 999
  private static void p22_beyondTheLast() {
    // east at place 2, 5 hours on, and 11
    CloudHerd x = Due.told("k1,0;loooooo;uooeooo;a0,9;");
    toTheLast(x);
    x.lift(0, 1);
    Due.is("from 5 to 10", x.shade(1, 24), 0b11111100000);
  }

  // ---- promise 23

  // "BAD: ROW"
  private static void p23_row() {
    Edges.takes("row", 0, 7, (x, v) -> x.dew(v, 0, 1));
  }

  // "BAD: .. n": 1 to 12
  private static void p23_n() {
    Edges.takes("n", 1, 12, (x, v) -> x.dew(0, 0, v));
    CloudHerd x = Due.told(CALM);
    x.row(0, 0, 40);
    Due.is("12 of 40", x.dew(0, 0, 12), 0);
    Due.is("13 of 40", x.dew(0, 0, 13), BAD);
  }

  // "STATE: no HERD (ahead of BAD)", and so ahead of NULL
  private static void p23_noHerd() {
    noHerd("row 8", (x, v) -> x.dew(8, 0, 1));
    noHerd("n 0", (x, v) -> x.dew(0, 0, 0));
    noHerd("n 13", (x, v) -> x.dew(0, 0, 13));
    noHerd("missing", (x, v) -> x.dew(0, 0, 1));
  }

  // NULL; BAD is ahead of it, PLACE is not
  private static void p23_missing() {
    CloudHerd x = Edges.busy();
    x.drop(7);
    Edges.finds("missing", x, NULL, (y, v) -> y.dew(7, 0, 1));
    Due.is("no place", x.dew(7, -1, 1), NULL);
    Due.is("n 0", x.dew(7, 0, 0), BAD);
    Due.is("n 13", x.dew(7, 0, 13), BAD);
  }

  // PLACE; BAD is ahead of it
  private static void p23_place() {
    Edges.takesPlaces("one", 1, (x, v) -> x.dew(0, v, 1));
    Edges.takesPlaces("seven", 7, (x, v) -> x.dew(0, v, 7));
    Edges.takesPlaces("twelve", 12, (x, v) -> x.dew(0, v, 12));
    Due.is("BAD is ahead", Edges.busy().dew(0, -1, 13), BAD);
    Due.is("BAD is ahead", Edges.busy().dew(0, 40, 0), BAD);
  }

  // "for each of n HOURS": the first, the last, and none behind it
  private static void p23_each() {
    // rains at home for 12 hours, then no more
    CloudHerd x = Due.told(CALM + "g31,12;");
    Due.fill(x, 0, 0, 31, 31, 31, 31, 31, 31, 31, 31, 31, 31, 31, 31, 7);
    Due.is("12", x.dew(0, 0, 12), 1);
    x.set(0, 11, -1);
    Due.is("not in the last", x.dew(0, 0, 12), 0);
    Due.is("11", x.dew(0, 0, 11), 1);
    x.set(0, 0, 30);
    Due.is("not in the first", x.dew(0, 0, 11), 0);
    Due.is("1", x.dew(0, 1, 1), 1);
  }

  // "(-1: on none)"; the first and the last CELL
  private static void p23_cells() {
    for (int cell : new int[] {0, 31}) {
      CloudHerd x = Due.told(CALM + "g" + cell + ",1;");
      Due.fill(x, 0, 2, cell, -1, -2, 32);
      Due.is("rain on " + cell, x.dew(0, 0, 1), 1);
      Due.is("then none", x.dew(0, 0, 2), 1);
      Due.is("not at once", x.dew(0, 1, 1), 0);
      Due.is("-2", x.dew(0, 2, 1), 0);
      Due.is("32", x.dew(0, 3, 1), 0);
    }
  }

  // all of -1: those that do not rain; bits from the first to the last CLOUD
  private static void p23_bits() {
    CloudHerd x = Due.told(CALM + "p1,9;b2,0;a3,9;g4,1;y5,0;");
    Due.fill(x, 0, 0, -1, 4);
    Due.is("all but the fog", x.dew(0, 0, 1), 0b10111);
    Due.is("the fog", x.dew(0, 1, 1), 0b01000);
  }

  // "CLOUDS (bits) not GONE"
  private static void p23_gone() {
    CloudHerd x = withGone();
    Due.fill(x, 0, 0, -1, 1);
    Due.is("one that is gone does not rain, nor is it told", x.dew(0, 0, 1), 0);
    Due.is("the other", x.dew(0, 1, 1), 1);
  }

  // ALONE: none has another's WATER
  private static void p23_alone() {
    CloudHerd x = Due.told("k1,0;leooooo;uoooooo;f1;a0,0;g1,1;");
    Due.fill(x, 0, 0, 1, -1);
    Due.is("the fog by itself", x.dew(0, 0, 1), 2);
    Due.is("the white one by itself", x.dew(0, 1, 1), 1);
  }

  // no CLOUD: no bits
  private static void p23_noCloud() {
    CloudHerd x = Due.told(CALM);
    Due.fill(x, 0, 0, -1);
    Due.is("none", x.dew(0, 0, 1), 0);
  }

  // it is no matter how much it rained
  private static void p23_howMuch() {
    CloudHerd x = Due.told(CALM + "b9,3;");
    Due.fill(x, 0, 0, 9, 9, -1);
    Due.is("2, then 1, then 0", x.dew(0, 0, 3), 1);
  }

  // ---- promise 24

  // "BAD: CLOUD"
  private static void p24_cloud() {
    Edges.takesClouds((x, v) -> x.lost(v, 0, 0, 0, 1, 0));
  }

  // "BAD: .. HEIGHT"
  private static void p24_height() {
    Edges.takes("height", 0, 1, (x, v) -> x.lost(0, v, 0, 0, 1, 0));
  }

  // "BAD: .. ROW"
  private static void p24_row() {
    Edges.takes("row", 0, 7, (x, v) -> x.lost(0, 0, v, 0, 1, 0));
  }

  // "n ITEMS (1 to 12)"
  private static void p24_n() {
    Edges.takes("n", 1, 12, (x, v) -> x.lost(0, 0, 0, 0, v, 0));
    CloudHerd x = Due.told(CALM + "g0,0;");
    x.row(0, 0, 40);
    Due.is("12 of 40", x.lost(0, 0, 0, 28, 12, 0), 1);
    Due.is("13 of 40", x.lost(0, 0, 0, 27, 13, 0), BAD);
  }

  // "BAD: .. what"
  private static void p24_what() {
    Edges.takes("what", 0, 1, (x, v) -> x.lost(0, 0, 0, 0, 1, v));
  }

  // NULL; BAD is ahead of it, PLACE is not
  private static void p24_missing() {
    CloudHerd x = Edges.busy();
    x.drop(7);
    Edges.finds("missing", x, NULL, (y, v) -> y.lost(0, 0, 7, 0, 1, 0));
    Due.is("no place", x.lost(0, 0, 7, -1, 1, 0), NULL);
    Due.is("cloud 5", x.lost(5, 0, 7, 0, 1, 0), BAD);
    Due.is("height 2", x.lost(0, 2, 7, 0, 1, 0), BAD);
    Due.is("n 13", x.lost(0, 0, 7, 0, 13, 0), BAD);
    Due.is("n 0", x.lost(0, 0, 7, 0, 0, 0), BAD);
    Due.is("what 2", x.lost(0, 0, 7, 0, 1, 2), BAD);
  }

  // PLACE; BAD is ahead of it
  private static void p24_place() {
    Edges.takesPlaces("one", 1, (x, v) -> x.lost(0, 0, 0, v, 1, 0));
    Edges.takesPlaces("twelve", 12, (x, v) -> x.lost(0, 0, 0, v, 12, 0));
    Due.is("BAD is ahead", Edges.busy().lost(0, 0, 0, -1, 1, 2), BAD);
    Due.is("BAD is ahead", Edges.busy().lost(0, 0, 0, 12, 13, 0), BAD);
  }

  // of one that is GONE, and without a HERD: no STATE
  private static void p24_noState() {
    CloudHerd x = withGone();
    Due.fill(x, 0, 0, 31);
    Due.is("gone", x.lost(1, 0, 0, 0, 1, 1), 31);
    CloudHerd none = new CloudHerd();
    none.row(0, 0, 1);
    Due.is("no herd", none.lost(0, 0, 0, 0, 1, 0), BAD);
  }

  /** How many, and the least. */
  private static void begun(CloudHerd x, int height, int many, int least, int... cells) {
    Due.fill(x, 0, 2, cells);
    Due.is("how many", x.lost(0, height, 0, 0, cells.length, 0), many);
    Due.is("the least", x.lost(0, height, 0, 0, cells.length, 1), least);
  }

  // at each edge of the CELLS two can have begun, within one
  private static void p24_edges() {
    begun(Due.told("k1,0;leooooo;uoooooo;p0,0;"), 0, 2, 14, 15);
    begun(Due.told("k1,0;leooooo;uoooooo;p0,0;"), 0, 1, 13, 14);
    begun(Due.told("k1,0;leooooo;uoooooo;p0,0;"), 0, 0, NONE, 8);
    begun(Due.told("k1,0;lwooooo;uoooooo;p0,0;"), 0, 2, 8, 8);
    begun(Due.told("k1,0;lwooooo;uoooooo;p0,0;"), 0, 1, 10, 9);
    begun(Due.told("k1,0;lwooooo;uoooooo;p0,0;"), 0, 0, NONE, 15);
    begun(Due.told("k1,0;lsooooo;uoooooo;p0,0;"), 0, 2, 23, 31);
    begun(Due.told("k1,0;lsooooo;uoooooo;p0,0;"), 0, 1, 15, 23);
    begun(Due.told("k1,0;lsooooo;uoooooo;p0,0;"), 0, 0, NONE, 7);
    begun(Due.told("k1,0;lnooooo;uoooooo;p0,0;"), 0, 2, 0, 0);
    begun(Due.told("k1,0;lnooooo;uoooooo;p0,0;"), 0, 1, 16, 8);
    begun(Due.told("k1,0;lnooooo;uoooooo;p0,0;"), 0, 0, NONE, 24);
  }

  // the first and the last CELL, and what is none
  private static void p24_cells() {
    for (int cell : new int[] {0, 31}) {
      begun(Due.told(CALM + "p9,0;"), 0, 1, cell, cell);
    }
    for (int cell : new int[] {-1, 32, Edges.LEAST, Edges.MOST}) {
      begun(Due.told(CALM + "p9,0;"), 0, 0, NONE, cell);
    }
  }

  // all 12 HOURS are told, the last too
  private static void p24_twelve() {
    CloudHerd x = Due.told("k1,0;lewewew;uoooooo;p0,0;");
    begun(x, 0, 1, 8, 9, 8, 9, 8, 9, 8, 9, 8, 9, 8, 9, 8);
    begun(x, 0, 0, NONE, 9, 8, 9, 8, 9, 8, 9, 8, 9, 8, 9, 9);
    begun(x, 0, 0, NONE, 8, 8, 9, 8, 9, 8, 9, 8, 9, 8, 9, 8);
  }

  // "at a told HEIGHT": however high it is; a fog, a stray too, "as that CLOUD drifts"
  private static void p24_asItDrifts() {
    String winds = "k1,0;leooooo;usooooo;";
    begun(Due.told(winds + "p0,9;"), 0, 1, 9, 10);
    begun(Due.told(winds + "p0,9;"), 1, 1, 2, 10);
    CloudHerd high = Due.told(winds + "p0,9;");
    high.lift(0, 1);
    begun(high, 0, 1, 9, 10);
    begun(high, 1, 1, 2, 10);
    begun(Due.told(winds + "g0,9;"), 0, 1, 10, 10);
    begun(Due.told(winds + "g0,9;"), 1, 1, 10, 10);
    begun(Due.told(winds + "y0,9;"), 0, 1, 11, 10);
    begun(Due.told(winds + "y0,9;"), 1, 1, 18, 10);
  }

  // "from now on", the six places come again
  private static void p24_fromNowOn() {
    CloudHerd x = Due.told("k1,0;leooooo;uoooooo;p0,0;");
    begun(x, 0, 1, 9, 10, 10, 10, 10, 10, 10, 11);
    x.hours(1);
    begun(x, 0, 1, 10, 10, 10, 10, 10, 10, 11);
    x.hours(4);
    begun(x, 0, 1, 10, 10, 11);
  }

  // ---- promise 25

  // "BAD: ROW"
  private static void p25_row() {
    Edges.takes("row", 0, 7, (x, v) -> x.kite(v, 0, 1, 0));
  }

  // "BAD: .. n": 1 to 12
  private static void p25_n() {
    Edges.takes("n", 1, 12, (x, v) -> x.kite(0, 0, v, 0));
    CloudHerd x = Due.told(CALM);
    x.row(0, 0, 40);
    Due.is("12 of 40", x.kite(0, 28, 12, 0), 12);
    Due.is("13 of 40", x.kite(0, 27, 13, 0), BAD);
  }

  // "BAD: .. what"
  private static void p25_what() {
    Edges.takes("what", 0, 1, (x, v) -> x.kite(0, 0, 1, v));
  }

  // "STATE: no HERD (ahead of BAD)", and so ahead of NULL
  private static void p25_noHerd() {
    noHerd("row 8", (x, v) -> x.kite(8, 0, 1, 0));
    noHerd("n 0", (x, v) -> x.kite(0, 0, 0, 0));
    noHerd("n 13", (x, v) -> x.kite(0, 0, 13, 0));
    noHerd("what 2", (x, v) -> x.kite(0, 0, 1, 2));
    noHerd("missing", (x, v) -> x.kite(0, 0, 1, 0));
  }

  // NULL; BAD is ahead of it, PLACE is not
  private static void p25_missing() {
    CloudHerd x = Edges.busy();
    x.drop(7);
    Edges.finds("missing", x, NULL, (y, v) -> y.kite(7, 0, 1, 0));
    Due.is("no place", x.kite(7, -1, 1, 0), NULL);
    Due.is("n 0", x.kite(7, 0, 0, 0), BAD);
    Due.is("n 13", x.kite(7, 0, 13, 0), BAD);
    Due.is("what 2", x.kite(7, 0, 1, 2), BAD);
  }

  // PLACE; BAD is ahead of it
  private static void p25_place() {
    Edges.takesPlaces("one", 1, (x, v) -> x.kite(0, v, 1, 0));
    Edges.takesPlaces("twelve", 12, (x, v) -> x.kite(0, v, 12, 0));
    Due.is("BAD is ahead", Edges.busy().kite(0, -1, 1, 2), BAD);
    Due.is("BAD is ahead", Edges.busy().kite(0, 12, 13, 0), BAD);
  }

  private static void flew(String winds, int many, int first, int... directions) {
    CloudHerd x = Due.told("k1,0;" + winds);
    Due.fill(x, 0, 2, directions);
    Due.is("how many", x.kite(0, 0, directions.length, 0), many);
    Due.is("the first", x.kite(0, 0, directions.length, 1), first);
  }

  // all twelve ways; none
  private static void p25_allAndNone() {
    flew("leeeeee;ueeeeee;", 12, 0, 1);
    flew("leeeeee;ueeeeee;", 0, NONE, 2);
  }

  // "the first (6 times the HEIGHT, and the place)": 0, 5, 6, 11
  private static void p25_first() {
    flew("lnoooso;uooooow;", 1, 0, 4);
    flew("looooow;unoooso;", 1, 5, 2);
    flew("lsoooso;uwoooon;", 1, 6, 2);
    flew("looooow;usoooon;", 1, 11, 4);
  }

  // "DIRECTIONS (.. 0 none .. 4 north)": there are no others
  private static void p25_directions() {
    int[] due = {2, 3, 2, 2, 3};
    for (int direction = 0; direction < 5; direction++) {
      CloudHerd x = Due.told("k1,0;loewsne;uoewsnn;");
      Due.fill(x, 0, 0, direction);
      Due.is("direction " + direction, x.kite(0, 0, 1, 0), due[direction]);
    }
    for (int direction : new int[] {-1, 5, 255, Edges.LEAST, Edges.MOST}) {
      flew("loewsne;uoewsnn;", 0, NONE, direction);
    }
  }

  // behind the sixth place the first comes again, for a second time too
  private static void p25_comesAgain() {
    flew("leoooow;uoooooo;", 1, 5, 2, 1);
    flew("leoooow;uoooooo;", 1, 5, 2, 1, 0, 0, 0, 0, 2, 1, 0, 0, 0, 0);
    flew("leoooow;uoooooo;", 0, NONE, 2, 1, 0, 0, 0, 0, 2, 1, 0, 0, 0, 2);
    flew("loooooo;ueoooow;", 1, 11, 2, 1, 0, 0, 0, 0, 2, 1, 0, 0, 0, 0);
  }

  // "at one HEIGHT": not from the one to the other
  private static void p25_oneHeight() {
    flew("looooow;uwooooo;", 0, NONE, 2, 2);
    flew("leeeeee;uwwwwww;", 0, NONE, 1, 2);
  }

  // "from an HOUR whose place of six is not known": whatever the HOUR
  private static void p25_whateverTheHour() {
    CloudHerd x = Due.told("k1,0;loeoooo;uoooooo;");
    Due.fill(x, 0, 0, 1);
    for (int hour = 0; hour < 7; hour++) {
      Due.is("place", x.kite(0, 0, 1, 1), 1);
      x.hours(1);
    }
  }

  // ---- promise 26

  // BAD: there is no such CLOUD
  private static void p26_cloud() {
    Edges.takesClouds((x, v) -> x.tuesday(v, 0, 0, 0));
  }

  // "(0 to 60 HOURS)"
  private static void p26_n() {
    Edges.takes("n", 0, 60, (x, v) -> x.tuesday(0, v, 0, 0));
  }

  // BAD: a CELL
  private static void p26_cell() {
    Edges.takes("cell", 0, 31, (x, v) -> x.tuesday(0, 0, v, 0));
  }

  // "above (what = 0), below (1)"
  private static void p26_what() {
    Edges.takes("what", 0, 1, (x, v) -> x.tuesday(0, 0, 0, v));
  }

  // "STATE: it is GONE"; BAD is ahead of it
  private static void p26_gone() {
    Edges.refuses("gone", withGone(), STATE, (x, v) -> x.tuesday(1, 0, 1, 0));
    Edges.refuses("n 61", withGone(), BAD, (x, v) -> x.tuesday(1, 61, 1, 0));
    Edges.refuses("n -1", withGone(), BAD, (x, v) -> x.tuesday(1, -1, 1, 0));
    Edges.refuses("cell 32", withGone(), BAD, (x, v) -> x.tuesday(1, 0, 32, 0));
    Edges.refuses("what 2", withGone(), BAD, (x, v) -> x.tuesday(1, 0, 1, 2));
  }

  private static void odds(CloudHerd x, int n, int cell, int above, int below) {
    Due.is("above, " + n + " hours, cell " + cell, x.tuesday(0, n, cell, 0), above);
    Due.is("below, " + n + " hours, cell " + cell, x.tuesday(0, n, cell, 1), below);
  }

  // "two numbers in lowest terms (0 is 0 by 1)": of six cases 0 to 6
  private static void p26_lowestTerms() {
    String[] winds = {"oooooo", "eooooo", "eeoooo", "eeeooo", "eeeeoo", "eeeeeo", "eeeeee"};
    int[][] due = {{0, 1}, {1, 6}, {1, 3}, {1, 2}, {2, 3}, {5, 6}, {1, 1}};
    for (int k = 0; k <= 6; k++) {
      CloudHerd x = Due.told("k1,0;l" + winds[k] + ";uoooooo;p9,0;");
      odds(x, 1, 10, due[k][0], due[k][1]);
      odds(x, 1, 9, due[6 - k][0], due[6 - k][1]);
    }
  }

  // 0 HOURS: where it is, at both ends of the cells
  private static void p26_none() {
    for (int cell : new int[] {0, 31}) {
      CloudHerd x = Due.told("k1,0;lewsnew;uoooooo;p" + cell + ",0;");
      odds(x, 0, cell, 1, 1);
      odds(x, 0, 31 - cell, 0, 1);
    }
  }

  // 60 HOURS, and one less
  private static void p26_sixty() {
    CloudHerd x = Due.told(TO_AND_FRO + "p1,0;");
    odds(x, 60, 1, 1, 1);
    odds(x, 59, 1, 0, 1);
    odds(x, 59, 2, 1, 2);
    odds(x, 59, 0, 1, 2);
  }

  // "the HOUR is 0 to 5 later than it is": each place once, whatever the HOUR
  private static void p26_sixCases() {
    CloudHerd x = Due.told("k1,0;lsoooow;uoooooo;p9,20;");
    for (int hour = 0; hour < 7; hour++) {
      odds(x, 1, 9, 2, 3);
      odds(x, 1, 8, 1, 6);
      odds(x, 1, 17, 1, 6);
      odds(x, 2, 16, 1, 6);
      x.lift(0, 1);
      x.hours(1);
      x.lift(0, 0);
    }
  }

  // "as high as it is"
  private static void p26_asHighAsItIs() {
    CloudHerd x = Due.told("k1,0;leeeeee;uwwwwww;p9,9;");
    odds(x, 1, 10, 1, 1);
    x.lift(0, 1);
    odds(x, 1, 8, 1, 1);
    odds(x, 1, 10, 0, 1);
  }

  // ALONE: none runs together with it; at the edge it stays
  private static void p26_aloneAndAtTheEdge() {
    CloudHerd x = Due.told("k1,0;leeeeee;uoooooo;p0,0;g1,1;p2,1;");
    odds(x, 6, 6, 1, 1);
    odds(x, 7, 7, 1, 1);
    odds(x, 8, 7, 1, 1);
    odds(x, 8, 8, 0, 1);
  }

  // a fog is always there, a stray goes the other way
  private static void p26_fogAndStray() {
    odds(Due.told("k1,0;leeeeee;uoooooo;g9,1;"), 60, 9, 1, 1);
    odds(Due.told("k1,0;leooooo;uoooooo;y9,1;"), 1, 8, 1, 6);
  }

  // ---- promise 27

  /** Five of a line as 9, but one. */
  private static CloudHerd line(int at, int v) {
    CloudHerd x = new CloudHerd();
    x.row(0, 2, 7);
    for (int k = 0; k < 7; k++) {
      x.set(0, k, 9);
    }
    x.set(0, at, v);
    return x;
  }

  // "BAD: ROW"
  private static void p27_row() {
    Edges.takes("row", 0, 7, (x, v) -> x.guards(v, 0));
  }

  // NULL, ahead of PLACE
  private static void p27_missing() {
    CloudHerd x = Edges.busy();
    x.drop(7);
    Edges.finds("missing", x, NULL, (y, v) -> y.guards(7, 0));
    Due.is("no place", x.guards(7, -1), NULL);
  }

  // "5 ITEMS of a ROW from i on"; PLACE
  private static void p27_place() {
    Edges.takesPlaces("guards", 5, (x, v) -> x.guards(0, v));
    for (int n = 3; n <= 6; n++) {
      CloudHerd x = new CloudHerd();
      x.row(0, 0, n);
      for (int k = 0; k < n; k++) {
        x.set(0, k, 1);
      }
      Due.is("of " + n, x.guards(0, 0), n < 5 ? Edges.PLACE : 31);
    }
  }

  // "then BAD: an ITEM not 1 to 20": each of the five
  private static void p27_items() {
    for (int at = 0; at < 5; at++) {
      for (int v : new int[] {1, 20}) {
        Due.is("item " + at + " " + v, line(at, v).guards(0, 0) > 0 ? 1 : 0, 1);
      }
      for (int v : new int[] {0, 21, -1, Edges.LEAST, Edges.MOST}) {
        int place = at;
        Edges.refuses("item " + at + " " + v, line(place, v), BAD, (x, w) -> x.guards(0, 0));
      }
    }
  }

  // no ITEM but the five is looked at
  private static void p27_noOtherItems() {
    Due.is("behind the five", line(5, 0).guards(0, 0), 31);
    Due.is("ahead of the five", line(0, 0).guards(0, 1), 31);
    Due.is("ahead of the five", line(1, 21).guards(0, 2), 31);
    Due.is("within", line(1, 21).guards(0, 1), BAD);
  }

  // "then BAD": NULL, PLACE are ahead of it; BAD leaves status
  private static void p27_order() {
    CloudHerd x = line(2, 0);
    Due.is("PLACE", x.guards(0, 3), Edges.PLACE);
    Due.is("status", x.status(), 2);
    Due.is("BAD", x.guards(0, 0), BAD);
    Due.is("status yet", x.status(), 2);
    x.set(0, 2, 20);
    Due.is("as told", x.guards(0, 0) > 0 ? 1 : 0, 1);
    Due.is("status", x.status(), 0);
    x.set(0, 2, 21);
    Due.is("BAD", x.guards(0, 0), BAD);
    Due.is("status yet", x.status(), 0);
  }

  private static void best(int set, int above, int below, int... takes) {
    CloudHerd x = new CloudHerd();
    Due.fill(x, 0, 0, takes);
    Due.is("set", x.guards(0, 0), set);
    Due.is("above", x.guardsValue(0, 0, 0), above);
    Due.is("below", x.guardsValue(0, 0, 1), below);
  }

  // "of several the least": a third that adds nothing is not in it
  private static void p27_least() {
    // 20 and 20 give 10; a third of 10 gives 2 by (1/20 1/20 1/10): 10, too
    best(0b00011, 10, 1, 20, 20, 10, 1, 1);
    best(0b11000, 10, 1, 1, 1, 10, 20, 20);
    best(0b10001, 10, 1, 20, 10, 1, 1, 20);
    // of 11 it adds
    best(0b00111, 220, 21, 20, 20, 11, 1, 1);
    best(0b00011, 10, 1, 20, 20, 9, 1, 1);
  }

  // "(not empty)"; one place alone is worth nothing, two always something
  private static void p27_two() {
    // 20 and 1: 20 by 21; five ones and 20 differ: 4 by (1/20 and 4)
    best(0b11111, 80, 81, 20, 1, 1, 1, 1);
    best(0b11111, 4, 5, 1, 1, 1, 1, 1);
    best(0b11111, 16, 1, 20, 20, 20, 20, 20);
  }

  // ---- promise 28

  // "BAD: ROW"
  private static void p28_row() {
    Edges.takes("row", 0, 7, (x, v) -> x.guardsValue(v, 0, 0));
  }

  // "BAD: what"
  private static void p28_what() {
    Edges.takes("what", 0, 1, (x, v) -> x.guardsValue(0, 0, v));
  }

  // "ahead of NULL", and so of PLACE
  private static void p28_order() {
    CloudHerd x = Edges.busy();
    x.drop(7);
    for (int what : new int[] {-1, 2}) {
      Due.is("missing, what " + what, x.guardsValue(7, 0, what), BAD);
      Due.is("no place, what " + what, x.guardsValue(0, -1, what), BAD);
    }
    Edges.finds("missing", x, NULL, (y, v) -> y.guardsValue(7, 0, 0));
    Due.is("NULL ahead of PLACE", x.guardsValue(7, -1, 0), NULL);
  }

  // "Refused as guards()": PLACE
  private static void p28_place() {
    Edges.takesPlaces("above", 5, (x, v) -> x.guardsValue(0, v, 0));
    Edges.takesPlaces("below", 5, (x, v) -> x.guardsValue(0, v, 1));
  }

  // "Refused as guards()": an ITEM not 1 to 20
  private static void p28_items() {
    for (int at = 0; at < 5; at++) {
      for (int what = 0; what <= 1; what++) {
        int asked = what;
        for (int v : new int[] {1, 20}) {
          Due.is("item " + v, line(at, v).guardsValue(0, 0, what) > 0 ? 1 : 0, 1);
        }
        for (int v : new int[] {0, 21}) {
          Edges.refuses("item " + v, line(at, v), BAD, (x, w) -> x.guardsValue(0, 0, asked));
        }
      }
    }
  }

  // "a fraction", in lowest terms: by 1, and with the largest numbers
  private static void p28_lowestTerms() {
    best(0b11111, 12, 5, 3, 3, 3, 3, 3);
    best(0b11111, 8, 1, 10, 10, 10, 10, 10);
    // 4 by (1/20 1/19 1/18 1/17 1/16): the least that all divide is 232560, the parts of it
    // 11628 12240 12920 13680 14535, in all 65003; 930240 and 65003 share nothing
    best(0b11111, 930240, 65003, 20, 19, 18, 17, 16);
  }

  // ---- promise 29

  // "(0 to 60)"
  private static void p29_n() {
    Edges.takes("n", 0, 60, (x, v) -> x.dues(v));
  }

  // "STATE: no HERD (ahead of BAD)"
  private static void p29_noHerd() {
    noHerd("0", (x, v) -> x.dues(0));
    noHerd("61", (x, v) -> x.dues(61));
    noHerd("-1", (x, v) -> x.dues(-1));
  }

  // "MILK within n HOURS": 0, and the 60th
  private static void p29_within() {
    // over the hill from hour 41 on
    CloudHerd x = Due.told(SLOW + "m7;p0,20;");
    Due.is("0", x.dues(0), 0);
    Due.is("41", x.dues(41), 0);
    Due.is("42", x.dues(42), 1);
    Due.is("59", x.dues(59), 18);
    Due.is("60", x.dues(60), 19);
  }

  // "from now on": what is milked already is not counted
  private static void p29_fromNowOn() {
    CloudHerd x = Due.told(CALM + "m7;p7,3;");
    x.hours(1);
    Due.is("0", x.dues(0), 0);
    Due.is("1", x.dues(1), 1);
    Due.is("2", x.dues(2), 2);
    Due.is("3", x.dues(3), 2);
    Due.is("60", x.dues(60), 2);
    x.hours(2);
    Due.is("no water", x.dues(60), 0);
  }

  // 40 WATER, the most
  private static void p29_forty() {
    CloudHerd x = Due.told("k1,0;leooooo;uoooooo;m15;p14,20;p15,20;");
    Due.is("39", x.dues(39), 39);
    Due.is("40", x.dues(40), 40);
    Due.is("41", x.dues(41), 40);
  }
}

/** Promises 16 to 29. */
public final class ForetoldTest {
  private static final int BAD = CloudHerd.BAD, STATE = CloudHerd.STATE, NONE = CloudHerd.NONE;
  private static final int NULL = -1000011, PLACE = -1000012;
  // the white one comes over field 1, hay 2, hill 3; the black one over hay 10
  private static final String LAND =
      "k5,3;leeeeee;uwwwwww;f1;h2;m3;h10;a0,2;b9,5;g20,4;";

  public static void main(String[] args) {
    ahead();
    earned();
    knot();
    wetHay();
    soon();
    soonByBothWinds();
    heights();
    heightsOfAll();
    shade();
    dew();
    lost();
    kite();
    tuesday();
    guards();
    guardsValue();
    dues();
    changesNothing();
    Due.end("ForetoldTest");
  }

  private static void ahead() {
    CloudHerd x = Due.told(LAND);
    int[][] white = {{0, 0, 2, 0}, {1, 0, 1, 0}, {2, 0, 1, 0}, {3, 0, 0, 0}, {4, 0, 0, 0}};
    for (int n = 0; n < white.length; n++) {
      for (int what = 0; what <= 3; what++) {
        Due.is("ahead " + n + " " + what, x.ahead(0, n, what), white[n][what]);
      }
    }
    Due.is("60 hours", x.ahead(0, 60, 0), 7);
    x.lift(1, 1);
    Due.is("height", x.ahead(1, 2, 1), 1);
    Due.is("cell", x.ahead(1, 2, 0), 8);
    CloudHerd run = Due.told("k1,0;leooooo;uoooooo;a0,3;g1,9;");
    int[] gone = {1, 0, 0, 1};
    for (int what = 0; what <= 3; what++) {
      Due.is("gone, then", run.ahead(1, 1, what), gone[what]);
    }
    Due.is("water, then", run.ahead(0, 1, 2), 12);
    Due.is("not yet", run.ahead(1, 0, 3), 0);
    run.hours(1);
    Due.is("of one that is gone", run.ahead(1, 5, 3), 1);
    Due.is("cloud 3", x.ahead(3, 0, 0), BAD);
    Due.is("cloud -1", x.ahead(-1, 0, 0), BAD);
    Due.is("n 61", x.ahead(0, 61, 0), BAD);
    Due.is("n -1", x.ahead(0, -1, 0), BAD);
    Due.is("what 4", x.ahead(0, 0, 4), BAD);
    Due.is("what -1", x.ahead(0, 0, -1), BAD);
    Due.is("no herd", new CloudHerd().ahead(0, 0, 0), BAD);
  }

  private static void earned() {
    CloudHerd x = Due.told(LAND);
    Due.is("0", x.earned(0), 0);
    Due.is("5 for the field, 6 for hay", x.earned(1), -1);
    Due.is("60", x.earned(60), -1);
    x.hours(1);
    Due.is("what there is, too", x.earned(0), -1);
    Due.is("61", x.earned(61), BAD);
    Due.is("-1", x.earned(-1), BAD);
    Due.is("no herd, bad", new CloudHerd().earned(61), STATE);
  }

  private static void knot() {
    CloudHerd x = Due.told("k1,0;loeeeoo;uoooooo;a0,1;g1,2;p2,3;g4,9;");
    Due.is("not yet", x.knot(1, 0), NONE);
    Due.is("not yet", x.knot(1, 1), NONE);
    Due.is("when", x.knot(2, 0), 1);
    Due.is("who", x.knot(2, 1), 2);
    Due.is("the first of two", x.knot(60, 0), 1);
    Due.is("the first of two", x.knot(60, 1), 2);
    x.hours(2);
    Due.is("from now on", x.knot(60, 0), 0);
    Due.is("not who is gone already", x.knot(60, 1), 8);
    x.hours(1);
    Due.is("not for a while", x.knot(10, 0), NONE);
    Due.is("white and sheep, at the edge", x.knot(11, 0), 10);
    Due.is("white and sheep, at the edge", x.knot(60, 1), 4);
    CloudHerd two = Due.told("k1,0;leooooo;uoooooo;a0,3;g1,20;y2,20;");
    Due.is("two at once", two.knot(1, 1), 6);
    Due.is("n 0", x.knot(0, 0), BAD);
    Due.is("n 61", x.knot(61, 0), BAD);
    Due.is("what 2", x.knot(1, 2), BAD);
    Due.is("what -1", x.knot(1, -1), BAD);
    Due.is("no herd, bad", new CloudHerd().knot(0, 2), STATE);
  }

  private static void wetHay() {
    CloudHerd x = Due.told("k5,3;leeeeee;uwwwwww;f1;h2;h10;h12;h13;a0,9;b8,7;");
    // black: 9, 10 (hay, 2), 11, 12 (hay, the last 1)
    Due.is("not yet", x.wetHay(1, 0), NONE);
    Due.is("not yet", x.wetHay(1, 1), 0);
    Due.is("when", x.wetHay(2, 0), 1);
    Due.is("how much", x.wetHay(2, 1), 6);
    Due.is("the first", x.wetHay(60, 0), 1);
    Due.is("in all", x.wetHay(60, 1), 9);
    x.hours(2);
    Due.is("from now on", x.wetHay(60, 0), 1);
    Due.is("from now on", x.wetHay(60, 1), 3);
    CloudHerd free = Due.told("k5,0;leeeeee;uwwwwww;h10;b8,7;");
    Due.is("for nothing, but it rains", free.wetHay(9, 0), 1);
    Due.is("for nothing", free.wetHay(9, 1), 0);
    Due.is("n 0", x.wetHay(0, 0), BAD);
    Due.is("n 61", x.wetHay(61, 1), BAD);
    Due.is("what 2", x.wetHay(1, 2), BAD);
    Due.is("what -1", x.wetHay(1, -1), BAD);
    Due.is("no herd, bad", new CloudHerd().wetHay(0, 2), STATE);
  }

  private static void soon() {
    CloudHerd x = Due.told("k1,0;leooooo;uoooooo;a0,1;g9,2;y18,3;a8,1;");
    Due.is("it is", x.soon(0, 0), 0);
    Due.is("1", x.soon(0, 1), 1);
    Due.is("when the wind comes again", x.soon(0, 2), 7);
    Due.is("4 cells", x.soon(0, 4), 19);
    Due.is("5 cells, in 25 hours", x.soon(0, 5), NONE);
    Due.is("never", x.soon(0, 8), NONE);
    Due.is("fog", x.soon(1, 10), NONE);
    Due.is("fog, there", x.soon(1, 9), 0);
    Due.is("fog, not over 0", x.soon(1, 0), NONE);
    Due.is("stray, the other way", x.soon(2, 17), 1);
    Due.is("stray, not this way", x.soon(2, 19), NONE);
    Due.is("cloud 4", x.soon(4, 0), BAD);
    Due.is("cloud -1", x.soon(-1, 0), BAD);
    Due.is("cell 32", x.soon(0, 32), BAD);
    Due.is("cell -1", x.soon(0, -1), BAD);
    x.hours(1);
    Due.is("gone", x.cloud(3, 3), 1);
    Due.is("gone", x.soon(3, 9), STATE);
    Due.is("bad ahead of gone", x.soon(3, 32), BAD);
    Due.is("from now on", x.soon(0, 2), 6);
    CloudHerd last = Due.told("k1,0;loooooe;uoooooo;a0,1;");
    Due.is("at hour 24", last.soon(0, 4), 24);
  }

  private static void soonByBothWinds() {
    CloudHerd x = Due.told("k1,0;lewsnoo;ussoooo;p9,0;y10,4;");
    Due.is("high", x.soon(0, 17), 1);
    Due.is("low, then high", x.soon(0, 18), 2);
    Due.is("high, then high", x.soon(0, 25), 2);
    Due.is("high, high, low at the edge", x.soon(0, 26), 3);
    x.lift(0, 1);
    Due.is("let down", x.soon(0, 10), 1);
    Due.is("a stray is low only", x.soon(1, 2), 3);
    Due.is("a stray is low only", x.soon(1, 9), 1);
  }

  private static void heights() {
    // low: e to field 1, then to hay 2; high: none
    CloudHerd x = Due.told("k5,3;leeoooo;uoooooo;f1;h2;b0,20;");
    Due.is("low once", x.heights(0, 1, 0), 0);
    Due.is("10", x.heights(0, 1, 1), 10);
    Due.is("then lifted", x.heights(0, 2, 0), 2);
    Due.is("20", x.heights(0, 2, 1), 20);
    Due.is("high as long as the wind blows, then not: the least", x.heights(0, 4, 0), 2);
    Due.is("40", x.heights(0, 4, 1), 40);
    CloudHerd dry = Due.told("k5,3;leeoooo;uoooooo;f1;h2;b0,5;");
    Due.is("2, then 2 less for the lift, then the last 1", dry.heights(0, 3, 1), 15);
    Due.is("high at the second", dry.heights(0, 3, 0), 2);
    dry.lift(0, 1);
    Due.is("let down at first, 2 of 3; then lifted, 0 left", dry.heights(0, 2, 1), 10);
    Due.is("rather than the last 1 on hay", dry.heights(0, 2, 0), 2);
  }

  private static void heightsOfAll() {
    CloudHerd x = Due.told("k5,3;loooooo;ueeeeee;h0;h1;m9;f18;b0,9;g1,2;y2,1;a9,2;p4,9;");
    Due.is("over hay, at a loss", x.heights(0, 1, 1), -6);
    Due.is("over hay, the least", x.heights(0, 1, 0), 0);
    Due.is("away from hay", x.heights(0, 2, 0), 3);
    Due.is("away from hay", x.heights(0, 2, 1), -6);
    Due.is("fog", x.heights(1, 8, 0), 0);
    Due.is("fog, 2 by 3", x.heights(1, 8, 1), -6);
    Due.is("sheep", x.heights(4, 8, 1), 0);
    Due.is("sheep, the least", x.heights(4, 8, 0), 0);
    Due.is("n 0", x.heights(0, 0, 0), BAD);
    Due.is("n 9", x.heights(0, 9, 0), BAD);
    Due.is("what 2", x.heights(0, 1, 2), BAD);
    Due.is("what -1", x.heights(0, 1, -1), BAD);
    Due.is("cloud 5", x.heights(5, 1, 0), BAD);
    Due.is("cloud -1", x.heights(-1, 1, 0), BAD);
    CloudHerd told = Due.told("k5,3;leooooo;uoooooo;f1;m2;g1,9;a0,9;");
    Due.is("alone: 9, less 2 for a lift", told.heights(1, 8, 1), 35);
    told.rains(1, 0);
    Due.is("not told to", told.heights(1, 8, 1), 0);
    told.hours(1);
    Due.is("gone", told.heights(1, 1, 0), STATE);
    Due.is("bad ahead of gone", told.heights(1, 9, 0), BAD);
    CloudHerd milked = Due.told("k5,3;loeoooo;uoooooo;m0;f1;a0,2;");
    Due.is("1 of 2 is milked", milked.heights(0, 3, 1), 5);
    Due.is("all low", milked.heights(0, 3, 0), 0);
    CloudHerd up = Due.told("k5,3;loooooo;ueooooo;f1;b0,4;");
    Due.is("high at the first only", up.heights(0, 2, 0), 1);
    Due.is("what is left behind the lift", up.heights(0, 2, 1), 10);
  }

  private static void shade() {
    CloudHerd x = Due.told("k1,0;leeeeee;uwwwwww;a0,1;p3,9;g9,9;");
    Due.is("white in hour 3, sheep in hour 0", x.shade(4, 24), 1 | 1 << 3);
    Due.is("fewer", x.shade(4, 3), 1);
    Due.is("a fog: always", x.shade(9, 24), (1 << 24) - 1);
    Due.is("at the edge, from hour 3 on", x.shade(7, 6), 8 | 16 | 32);
    Due.is("not where they begin", x.shade(0, 1), 0);
    x.lift(0, 1);
    Due.is("high", x.shade(0, 2), 3);
    CloudHerd run = Due.told("k1,0;leeoooo;uoooooo;g1,1;a0,1;");
    Due.is("one that is gone gives none", run.shade(2, 4), 0);
    Due.is("cell 32", x.shade(32, 1), BAD);
    Due.is("cell -1", x.shade(-1, 1), BAD);
    Due.is("n 0", x.shade(0, 0), BAD);
    Due.is("n 25", x.shade(0, 25), BAD);
    Due.is("no herd, bad", new CloudHerd().shade(32, 0), STATE);
  }

  private static void dew() {
    CloudHerd x = Due.told("k1,0;leeeeee;uwwwwww;f1;f3;a0,2;b8,3;g20,2;p2,9;y25,9;");
    Due.fill(x, 0, 0, 1, -1, 3, -1, -1);
    Due.fill(x, 1, 1, 9, 10, -1, -1);
    Due.fill(x, 2, 2, 20, 20, -1, -1, 7);
    Due.fill(x, 3, 0, -1, -1, -1, -1, -1, -1, -1, -1, -1, -1, -1, -1, -1);
    Due.fill(x, 4, 0, 24, 24, 24);
    Due.is("white", x.dew(0, 0, 5), 1);
    Due.is("status", x.status(), 0);
    Due.is("black", x.dew(1, 0, 4), 2);
    Due.is("fog", x.dew(2, 0, 4), 4);
    Due.is("not that long", x.dew(2, 0, 5), 0);
    Due.is("sheep", x.dew(3, 0, 12), 8);
    Due.is("stray", x.dew(4, 0, 3), 16);
    Due.is("of items from 1 on", x.dew(0, 1, 1), 8);
    x.rains(0, 0);
    Due.is("not told to: like a sheep", x.dew(3, 1, 12), 9);
    Due.is("n 0", x.dew(0, 0, 0), BAD);
    Due.is("n 13", x.dew(3, 0, 13), BAD);
    Due.is("row 8", x.dew(8, 0, 1), BAD);
    Due.is("row -1", x.dew(-1, 0, 1), BAD);
    Due.is("missing", x.dew(7, -1, 1), NULL);
    Due.is("status", x.status(), 1);
    Due.is("beyond", x.dew(0, 1, 5), PLACE);
    Due.is("ahead", x.dew(0, -1, 5), PLACE);
    Due.is("far beyond", x.dew(0, Integer.MAX_VALUE, 5), PLACE);
    Due.is("status", x.status(), 2);
    Due.is("no herd, bad", new CloudHerd().dew(8, 0, 0), STATE);
    CloudHerd run = Due.told("k1,0;leooooo;uoooooo;f1;g1,1;a0,1;");
    Due.fill(run, 0, 2, 1);
    Due.is("both, alone", run.dew(0, 0, 1), 3);
    run.hours(1);
    Due.fill(run, 0, 2, -1);
    Due.is("no water from its own hour; one is gone", run.dew(0, 0, 1), 0);
    Due.fill(run, 0, 2, 1);
    Due.is("it has the other's", run.dew(0, 0, 1), 1);
  }

  private static void lost() {
    CloudHerd x = Due.told("k1,0;leesooo;uwwnooo;p12,1;g13,1;y14,1;");
    Due.fill(x, 0, 0, 7, 7, 15);
    Due.is("two at the edge", x.lost(0, 0, 0, 0, 2, 0), 2);
    Due.is("the least", x.lost(0, 0, 0, 0, 2, 1), 6);
    Due.is("three hours", x.lost(0, 0, 0, 0, 3, 0), 2);
    Due.is("on high: none", x.lost(0, 1, 0, 0, 1, 0), 0);
    Due.is("on high: none", x.lost(0, 1, 0, 0, 1, 1), NONE);
    Due.is("fog", x.lost(1, 1, 0, 0, 2, 1), 7);
    Due.is("fog, drifting", x.lost(1, 0, 0, 0, 3, 0), 0);
    Due.fill(x, 1, 2, 5, 4, 99);
    Due.is("stray", x.lost(2, 0, 1, 0, 2, 1), 6);
    Due.is("stray, on high it would be", x.lost(2, 1, 1, 0, 1, 1), 4);
    Due.is("no cell", x.lost(2, 0, 1, 2, 1, 0), 0);
    Due.fill(x, 2, 0, 0, 0);
    Due.is("0 and 1, then", x.lost(0, 1, 2, 0, 1, 0), 2);
    Due.is("from 0 on", x.lost(0, 1, 2, 0, 2, 1), 0);
    Due.is("0 and 1 yet: 2 would have been over 1", x.lost(0, 1, 2, 0, 2, 0), 2);
    Due.fill(x, 2, 0, 31);
    Due.is("30 and 31", x.lost(0, 0, 2, 0, 1, 0), 2);
    Due.is("fog over 31", x.lost(1, 0, 2, 0, 1, 1), 31);
    x.hours(1);
    Due.fill(x, 2, 0, 20);
    Due.is("from now on", x.lost(0, 0, 2, 0, 1, 1), 19);
    Due.is("cloud 3", x.lost(3, 0, 0, 0, 1, 0), BAD);
    Due.is("cloud -1", x.lost(-1, 0, 0, 0, 1, 0), BAD);
    Due.is("height 2", x.lost(0, 2, 0, 0, 1, 0), BAD);
    Due.is("height -1", x.lost(0, -1, 0, 0, 1, 0), BAD);
    Due.is("row 8", x.lost(0, 0, 8, 0, 1, 0), BAD);
    Due.is("row -1", x.lost(0, 0, -1, 0, 1, 0), BAD);
    Due.is("n 0", x.lost(0, 0, 0, 0, 0, 0), BAD);
    Due.is("n 13", x.lost(0, 0, 7, 0, 13, 0), BAD);
    Due.is("what 2", x.lost(0, 0, 7, 0, 1, 2), BAD);
    Due.is("what -1", x.lost(0, 0, 7, 0, 1, -1), BAD);
    Due.is("missing", x.lost(0, 0, 7, -1, 1, 0), NULL);
    Due.is("beyond", x.lost(0, 0, 0, 3, 1, 0), PLACE);
    Due.is("status", x.status(), 2);
    Due.is("ahead", x.lost(0, 0, 0, -1, 1, 0), PLACE);
    x.lost(0, 0, 0, 0, 1, 0);
    Due.is("status", x.status(), 0);
    Due.is("no herd", new CloudHerd().lost(0, 0, 0, 0, 1, 0), BAD);
    CloudHerd run = Due.told("k1,0;leooooo;uoooooo;g1,1;a0,1;");
    run.hours(1);
    Due.fill(run, 0, 0, 9);
    Due.is("one that is gone, too", run.lost(1, 0, 0, 0, 1, 1), 9);
  }

  private static void kite() {
    CloudHerd x = Due.told("k1,0;leeowsn;unseeoo;");
    Due.fill(x, 0, 0, 1, 1, 0, 2, 3, 4, 1, 1, 0, 2, 3, 4, 1);
    Due.is("east: two low, two high", x.kite(0, 0, 1, 0), 4);
    Due.is("the first", x.kite(0, 0, 1, 1), 0);
    Due.is("east, east, none", x.kite(0, 0, 3, 0), 2);
    Due.is("twelve", x.kite(0, 0, 12, 0), 1);
    Due.is("twelve from 1 on", x.kite(0, 1, 12, 1), 1);
    Due.is("status", x.status(), 0);
    Due.fill(x, 1, 2, 0, 4, 3);
    Due.is("high, from place 5", x.kite(1, 0, 3, 1), 11);
    Due.is("one way", x.kite(1, 0, 3, 0), 1);
    x.hours(4);
    Due.is("whatever the hour", x.kite(1, 0, 3, 1), 11);
    Due.fill(x, 2, 2, 4, 4, 5, -1);
    Due.is("never", x.kite(2, 0, 2, 0), 0);
    Due.is("never", x.kite(2, 0, 2, 1), NONE);
    Due.is("no direction", x.kite(2, 2, 1, 0), 0);
    Due.is("no direction", x.kite(2, 3, 1, 1), NONE);
    Due.is("row 8", x.kite(8, 0, 1, 0), BAD);
    Due.is("row -1", x.kite(-1, 0, 1, 0), BAD);
    Due.is("n 0", x.kite(7, 0, 0, 0), BAD);
    Due.is("n 13", x.kite(0, 0, 13, 0), BAD);
    Due.is("what 2", x.kite(7, 0, 1, 2), BAD);
    Due.is("what -1", x.kite(7, 0, 1, -1), BAD);
    Due.is("missing", x.kite(7, -1, 1, 0), NULL);
    Due.is("status", x.status(), 1);
    Due.is("beyond", x.kite(1, 1, 3, 0), PLACE);
    Due.is("ahead", x.kite(1, -1, 3, 0), PLACE);
    Due.is("no herd, bad", new CloudHerd().kite(8, 0, 0, 2), STATE);
  }

  private static void odds(CloudHerd x, int cloud, int n, int cell, int above, int below) {
    String call = "tuesday(" + cloud + ", " + n + ", " + cell + ")";
    Due.is(call, x.tuesday(cloud, n, cell, 0), above);
    Due.is(call, x.tuesday(cloud, n, cell, 1), below);
  }

  private static void tuesday() {
    CloudHerd x = Due.told("k1,0;leewooo;uoooooe;p10,9;g20,1;y4,1;g11,2;");
    odds(x, 0, 0, 10, 1, 1);
    odds(x, 0, 0, 11, 0, 1);
    odds(x, 0, 1, 11, 1, 3);
    odds(x, 0, 1, 9, 1, 6);
    odds(x, 0, 1, 10, 1, 2);
    odds(x, 0, 6, 11, 1, 1);
    odds(x, 1, 60, 20, 1, 1);
    odds(x, 1, 60, 21, 0, 1);
    odds(x, 2, 1, 3, 1, 3);
    odds(x, 2, 2, 2, 1, 6);
    odds(x, 0, 60, 15, 1, 3);
    odds(x, 0, 60, 14, 2, 3);
    x.lift(0, 1);
    odds(x, 0, 1, 11, 1, 6);
    odds(x, 0, 5, 11, 5, 6);
    Due.is("cloud 4", x.tuesday(4, 0, 0, 0), BAD);
    Due.is("cloud -1", x.tuesday(-1, 0, 0, 0), BAD);
    Due.is("n 61", x.tuesday(0, 61, 0, 0), BAD);
    Due.is("n -1", x.tuesday(0, -1, 0, 0), BAD);
    Due.is("cell 32", x.tuesday(0, 0, 32, 0), BAD);
    Due.is("cell -1", x.tuesday(0, 0, -1, 0), BAD);
    Due.is("what 2", x.tuesday(0, 0, 0, 2), BAD);
    Due.is("what -1", x.tuesday(0, 0, 0, -1), BAD);
    CloudHerd run = Due.told("k1,0;leooooo;uoooooo;g1,1;a0,1;");
    odds(run, 1, 1, 1, 1, 6);
    run.hours(1);
    odds(run, 0, 1, 1, 1, 1);
    Due.is("gone", run.tuesday(1, 1, 1, 0), STATE);
    Due.is("bad ahead of gone", run.tuesday(1, 61, 1, 0), BAD);
  }

  private static void guards() {
    CloudHerd x = new CloudHerd();
    Due.fill(x, 0, 0, 3, 3, 3, 3, 3, 20, 20, 1, 1, 1);
    Due.is("all", x.guards(0, 0), 31);
    // 20 and 20: 10; with a 1, 2 by 1 and 2 by 20: less
    Due.is("two of five", x.guards(0, 5), 3);
    Due.is("status", x.status(), 0);
    // 12, 12, 6: a third that makes no odds, 2 by 1 by 12 twice and 1 by 6: 6, as 1 by 2 by 12
    Due.fill(x, 1, 1, 12, 12, 6, 1, 1);
    Due.is("of several the least", x.guards(1, 0), 3);
    Due.fill(x, 1, 1, 6, 1, 12, 12, 1);
    Due.is("of several the least", x.guards(1, 0), 12);
    Due.fill(x, 2, 2, 1, 20, 5, 21, 0, 7, 7, 7);
    Due.is("21", x.guards(2, 0), BAD);
    Due.is("0", x.guards(2, 3), BAD);
    Due.is("bad leaves status", x.status(), 0);
    Due.is("beyond", x.guards(2, 4), PLACE);
    Due.is("PLACE ahead of the items", x.status(), 2);
    Due.is("missing", x.guards(7, -1), NULL);
    Due.is("ahead", x.guards(0, -1), PLACE);
    Due.is("far beyond", x.guards(0, Integer.MAX_VALUE), PLACE);
    Due.is("bad", x.guards(2, 0), BAD);
    Due.is("bad leaves status", x.status(), 2);
    Due.is("row 8", x.guards(8, 0), BAD);
    Due.is("row -1", x.guards(-1, 0), BAD);
    Due.fill(x, 3, 0, 1, 2, 3, 4, 21);
    Due.is("21 alone", x.guards(3, 0), BAD);
    x.set(3, 4, 20);
    Due.is("20", x.guards(3, 0), 24);
    x.set(3, 0, 0);
    Due.is("0 alone", x.guards(3, 0), BAD);
    x.row(3, 0, 4);
    Due.is("four", x.guards(3, 0), PLACE);
    Due.fill(x, 3, 2, 2, 2, 2, 2, 258);
    Due.is("258 as an int", x.guards(3, 0), BAD);
  }

  private static void guardsValue() {
    CloudHerd x = new CloudHerd();
    Due.fill(x, 0, 0, 3, 3, 3, 3, 3, 20, 20, 1, 1, 1);
    Due.is("4 by 5 thirds", x.guardsValue(0, 0, 0), 12);
    Due.is("4 by 5 thirds", x.guardsValue(0, 0, 1), 5);
    Due.is("1 by 2 twentieths", x.guardsValue(0, 5, 0), 10);
    Due.is("1 by 2 twentieths", x.guardsValue(0, 5, 1), 1);
    Due.fill(x, 1, 2, 20, 19, 18, 17, 16);
    // 4 by the sum of 1 by each; 1860480 is 20 19 18 17 16
    long sum = 1860480 / 20 + 1860480 / 19 + 1860480 / 18 + 1860480 / 17 + 1860480 / 16;
    Due.is("the set", x.guards(1, 0), 31);
    Due.is("a sum by a sum", x.guardsValue(1, 0, 0) * sum, 4L * 1860480 * x.guardsValue(1, 0, 1));
    Due.is("lowest terms", java.math.BigInteger.valueOf(x.guardsValue(1, 0, 0))
        .gcd(java.math.BigInteger.valueOf(x.guardsValue(1, 0, 1))).longValue(), 1);
    Due.is("what 2", x.guardsValue(0, 0, 2), BAD);
    Due.is("what -1, missing", x.guardsValue(7, 0, -1), BAD);
    Due.is("row 8", x.guardsValue(8, 0, 0), BAD);
    Due.is("row -1", x.guardsValue(-1, 0, 0), BAD);
    Due.is("missing", x.guardsValue(7, 0, 0), NULL);
    Due.is("status", x.status(), 1);
    Due.is("beyond", x.guardsValue(1, 1, 0), PLACE);
    Due.is("status", x.status(), 2);
    x.set(1, 4, 0);
    x.guardsValue(1, 1, 0);
    Due.is("an item", x.guardsValue(1, 0, 1), BAD);
    Due.is("status", x.status(), 2);
    x.guardsValue(0, 0, 1);
    Due.is("status", x.status(), 0);
  }

  private static void dues() {
    CloudHerd x = Due.told("k5,3;loooooo;uoooooo;m0;m1;p0,3;p1,1;");
    int[] milk = {0, 2, 3, 4, 4};
    for (int n = 0; n < milk.length; n++) {
      Due.is("dues " + n, x.dues(n), milk[n]);
    }
    Due.is("60", x.dues(60), 4);
    x.hours(1);
    Due.is("from now on", x.dues(0), 0);
    Due.is("from now on", x.dues(9), 2);
    Due.is("61", x.dues(61), BAD);
    Due.is("-1", x.dues(-1), BAD);
    Due.is("no herd, bad", new CloudHerd().dues(61), STATE);
  }

  private static void changesNothing() {
    CloudHerd x = Due.told(LAND);
    x.hours(2);
    x.lift(1, 1);
    Due.fill(x, 0, 0, 1, 2, 3, 4, 5);
    String before = Due.seen(x);
    x.ahead(0, 60, 0);
    x.earned(60);
    x.knot(60, 0);
    x.wetHay(60, 0);
    x.soon(0, 31);
    x.heights(0, 8, 0);
    x.shade(0, 24);
    x.dew(0, 0, 5);
    x.lost(0, 0, 0, 0, 5, 0);
    x.kite(0, 0, 5, 0);
    x.tuesday(0, 60, 0, 0);
    x.guards(0, 0);
    x.guardsValue(0, 0, 0);
    x.dues(60);
    Due.same("nothing changes", Due.seen(x), before);
    x.undo();
    Due.is("what is undone is what was done", x.cloud(1, 1), 0);
  }
}

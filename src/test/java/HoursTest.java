/** Promises 9 to 15, and the counts of 36. */
public final class HoursTest {
  private static final int BAD = CloudHerd.BAD, STATE = CloudHerd.STATE, FULL = CloudHerd.FULL;

  public static void main(String[] args) {
    drifts();
    turnsItsWinds();
    runsTogether();
    rains();
    milks();
    refusesHours();
    lifts();
    tellsToRain();
    undoes();
    undoesMilk();
    undoesTwentyFour();
    looksAtClouds();
    looksAtCells();
    looksAtWinds();
    counts();
    Due.end("HoursTest");
  }

  private static void drifts() {
    // in the corners, so that half of all ways end at an edge; and a fog, and a stray
    CloudHerd x = Due.told("k1,0;lewsneo;uoooooo;p0,1;p31,1;g4,0;y20,0;y7,0;");
    int[][] ways = {{1, 31, 4, 19, 6}, {0, 30, 4, 20, 7}, {8, 30, 4, 12, 7},
      {0, 22, 4, 20, 15}, {1, 23, 4, 19, 14}, {1, 23, 4, 19, 14}, {2, 23, 4, 18, 13}};
    for (int hour = 0; hour < ways.length; hour++) {
      x.hours(1);
      for (int k = 0; k < 5; k++) {
        Due.is("hour " + hour + " cloud " + k, x.cloud(k, 0), ways[hour][k]);
      }
    }
    Due.is("none is gone", x.count(6), 5);
  }

  private static void turnsItsWinds() {
    CloudHerd x = Due.told("k1,0;leeeeee;usssooo;b0,20;b8,20;");
    Due.is("lifted", x.lift(1, 1), 18);
    x.hours(1);
    Due.is("low", x.cloud(0, 0), 1);
    Due.is("high", x.cloud(1, 0), 16);
    x.hours(2);
    Due.is("low", x.cloud(0, 0), 3);
    Due.is("high, at the edge", x.cloud(1, 0), 24);
    x.hours(3);
    Due.is("low", x.cloud(0, 0), 6);
    x.lift(1, 0);
    x.hours(1);
    Due.is("low, the other", x.cloud(1, 0), 25);
    Due.is("hour", x.count(3), 7);
  }

  private static void runsTogether() {
    CloudHerd x = Due.told("k1,0;leooooo;uoooooo;a0,3;g1,20;y2,20;");
    x.hours(1);
    Due.is("water", x.cloud(0, 2), 40);
    Due.is("1 is gone", x.cloud(1, 3), 1);
    Due.is("2 is gone", x.cloud(2, 3), 1);
    Due.is("water of 1", x.cloud(1, 2), 0);
    Due.is("water of 2", x.cloud(2, 2), 0);
    Due.is("cell of 2", x.cloud(2, 0), 1);
    Due.is("left", x.count(6), 1);
    Due.is("clouds", x.count(1), 3);
    Due.is("over it", x.cell(1, 1), 1);
    CloudHerd high = Due.told("k1,0;leooooo;ueooooo;p0,3;g1,20;p2,4;");
    high.lift(0, 1);
    high.hours(1);
    Due.is("above one another", high.count(6), 3);
    Due.is("above one another", high.cell(1, 1), 3);
    high.lift(0, 0);
    Due.is("not ahead of an hour", high.count(6), 3);
    high.hours(1);
    Due.is("the lesser one stays", high.cloud(0, 3), 0);
    Due.is("the fog is gone", high.cloud(1, 3), 1);
    Due.is("its water", high.cloud(0, 2), 20);
    CloudHerd gone = Due.told("k1,0;leeoooo;uoooooo;a0,1;g1,2;g2,4;");
    gone.hours(1);
    Due.is("1 is gone", gone.cloud(1, 3), 1);
    gone.hours(1);
    Due.is("one that is gone stays where it was", gone.cloud(1, 0), 1);
    Due.is("1 and 2, and 3 that are left of 4", gone.cloud(0, 2), 6);
  }

  private static void rains() {
    CloudHerd x = Due.told("k5,3;loooooo;uoooooo;f0;f1;f2;f3;f4;a0,2;p1,2;b2,3;g3,2;y4,0;");
    Due.is("1 and 2 and 1, by 5", x.hours(1), 20);
    int[] waters = {1, 2, 1, 1, 0};
    for (int k = 0; k < 5; k++) {
      Due.is("water " + k, x.cloud(k, 2), waters[k]);
    }
    Due.is("1 and 1 and 1, by 5", x.hours(1), 35);
    Due.is("nothing more", x.hours(9), 35);
    CloudHerd hay = Due.told("k5,3;loooooo;uoooooo;h0;h1;h2;h3;h4;a0,2;p1,2;b2,3;g3,2;y4,1;");
    Due.is("0 and 2 and 1 and 1, by 3", hay.hours(1), -12);
    Due.is("a white one keeps it", hay.cloud(0, 2), 2);
    Due.is("1 and 1, by 3", hay.hours(2), -18);
    CloudHerd bare = Due.told("k5,3;loooooo;uoooooo;m2;a0,2;p1,2;b2,3;g3,2;y4,1;");
    Due.is("on none", bare.hours(1), 0);
    int[] rest = {2, 2, 0, 1, 0};
    for (int k = 0; k < 5; k++) {
      Due.is("water " + k, bare.cloud(k, 2), rest[k]);
    }
    CloudHerd high = Due.told("k5,3;loooooo;uoooooo;f0;f1;a0,9;b1,9;");
    high.lift(0, 1);
    high.lift(1, 1);
    Due.is("from on high, too", high.hours(1), 15);
  }

  private static void milks() {
    CloudHerd x = Due.told("k5,3;loooooo;uoooooo;m0;m1;m2;m3;a0,2;p1,1;b2,3;g3,1;p4,5;");
    x.hours(1);
    Due.is("a, p, and b what it did not rain; g has rained", x.count(5), 3);
    int[] waters = {1, 0, 0, 0, 5};
    for (int k = 0; k < 5; k++) {
      Due.is("water " + k, x.cloud(k, 2), waters[k]);
    }
    x.hours(1);
    Due.is("milk", x.count(5), 4);
    CloudHerd high = Due.told("k5,3;loooooo;uoooooo;m0;p0,9;");
    high.lift(0, 1);
    high.hours(3);
    Due.is("none from on high", high.count(5), 0);
    high.lift(0, 0);
    high.hours(3);
    Due.is("low", high.count(5), 3);
    Due.is("water", high.cloud(0, 2), 4);
  }

  private static void refusesHours() {
    CloudHerd x = new CloudHerd();
    Due.is("no herd", x.hours(1), STATE);
    Due.is("no herd, bad", x.hours(25), STATE);
    Due.tell(x, "k1,0;leeeeee;uoooooo;p0,9;");
    Due.is("0", x.hours(0), BAD);
    Due.is("-1", x.hours(-1), BAD);
    Due.is("25", x.hours(25), BAD);
    Due.is("most", x.hours(Integer.MAX_VALUE), BAD);
    for (int k = 0; k < 41; k++) {
      Due.is("24", x.hours(24), 0);
    }
    Due.is("1000", x.hours(16), FULL);
    Due.is("hour", x.count(3), 984);
    Due.is("bad", x.hours(25), BAD);
    Due.is("999", x.hours(15), 0);
    Due.is("1000", x.hours(1), FULL);
    Due.is("bad ahead of full", x.hours(0), BAD);
    Due.is("hour", x.count(3), 999);
    Due.is("foretold all the same", x.ahead(0, 60, 0), 7);
    x.undo();
    Due.is("999 again", x.hours(1), 0);
  }

  private static void lifts() {
    CloudHerd x = Due.told("k1,0;loooooo;uoooooo;a0,9;p1,1;b2,2;g3,9;y4,9;");
    Due.is("white", x.lift(0, 1), 7);
    Due.is("sheep", x.lift(1, 1), 0);
    Due.is("black", x.lift(2, 1), 0);
    Due.is("fog", x.lift(3, 1), STATE);
    Due.is("fog", x.lift(3, 0), STATE);
    Due.is("stray", x.lift(4, 1), STATE);
    Due.is("acts", x.count(7), 3);
    Due.is("it is so", x.lift(0, 1), STATE);
    Due.is("height", x.cloud(0, 1), 1);
    Due.is("let down", x.lift(0, 0), 7);
    Due.is("it is so", x.lift(0, 0), STATE);
    Due.is("height", x.cloud(0, 1), 0);
    Due.is("cloud 5", x.lift(5, 1), BAD);
    Due.is("cloud -1", x.lift(-1, 1), BAD);
    Due.is("up 2", x.lift(0, 2), BAD);
    Due.is("up -1", x.lift(0, -1), BAD);
    Due.is("bad ahead of state", x.lift(3, 2), BAD);
    CloudHerd gone = Due.told("k1,0;leooooo;uoooooo;g1,9;a0,9;");
    gone.hours(1);
    Due.is("gone", gone.lift(1, 1), STATE);
    Due.is("gone", gone.rains(1, 0), STATE);
  }

  private static void tellsToRain() {
    CloudHerd x = Due.told("k5,0;loooooo;uoooooo;f0;f1;a0,9;p1,9;b2,9;g3,9;y4,9;");
    Due.is("not to", x.rains(0, 0), 1);
    Due.is("told", x.cloud(0, 4), 0);
    Due.is("earned", x.hours(1), 0);
    Due.is("to", x.rains(0, 1), 0);
    Due.is("to, again", x.rains(0, 1), 1);
    Due.is("earned", x.hours(1), 5);
    Due.is("sheep", x.rains(1, 0), 1);
    Due.is("sheep", x.rains(1, 1), 0);
    Due.is("earned", x.hours(1), 10);
    Due.is("black", x.rains(2, 0), STATE);
    Due.is("fog", x.rains(3, 0), STATE);
    Due.is("stray", x.rains(4, 1), STATE);
    Due.is("cloud 5", x.rains(5, 1), BAD);
    Due.is("cloud -1", x.rains(-1, 1), BAD);
    Due.is("on 2", x.rains(0, 2), BAD);
    Due.is("bad ahead of state", x.rains(2, -1), BAD);
    Due.is("acts", x.count(7), 8);
    Due.is("no herd", new CloudHerd().rains(0, 0), BAD);
  }

  private static void undoes() {
    CloudHerd x = Due.told("k5,3;leooooo;uoooooo;f1;m2;h3;a0,9;g1,20;p2,7;b3,9;");
    Due.is("none", x.undo(), STATE);
    x.feed(107);
    String[] seen = new String[6];
    seen[0] = Due.brief(x);
    x.lift(3, 1);
    seen[1] = Due.brief(x);
    x.rains(0, 0);
    seen[2] = Due.brief(x);
    x.hours(2);
    seen[4] = Due.brief(x);
    x.lift(3, 0);
    seen[5] = Due.brief(x);
    Due.is("someone is gone", x.count(6), 3);
    x.lift(3, 0);
    Due.same("what is refused is no act", Due.brief(x), seen[5]);
    int[] left = {0, 1, 2, 3, 4};
    for (int k = 4; k >= 0; k--) {
      Due.is("undo", x.undo(), left[k]);
      if (seen[k] != null) {
        Due.same("as it was " + k, Due.brief(x), seen[k]);
      }
    }
    Due.is("all are back", x.count(6), 4);
    Due.is("none", x.undo(), STATE);
    x.rains(0, 1);
    Due.is("told what it was told", x.count(7), 1);
    Due.is("undo", x.undo(), 0);
  }

  private static void undoesMilk() {
    CloudHerd x = Due.told("k5,3;loooooo;uoooooo;m0;h1;p0,9;b1,3;");
    x.hours(2);
    Due.is("milk", x.count(5), 2);
    Due.is("earned", x.count(4), -9);
    x.undo();
    Due.is("milk", x.count(5), 1);
    Due.is("earned", x.count(4), -6);
    Due.is("water", x.cloud(0, 2), 8);
    x.undo();
    Due.is("milk", x.count(5), 0);
    Due.is("water", x.cloud(1, 2), 3);
  }

  private static void undoesTwentyFour() {
    CloudHerd x = Due.told("k1,0;leeeooo;uoooooo;p0,20;");
    x.rains(0, 0);
    Due.is("acts", x.count(7), 1);
    x.hours(24);
    Due.is("acts", x.count(7), 24);
    x.lift(0, 1);
    Due.is("acts", x.count(7), 24);
    for (int k = 23; k >= 0; k--) {
      Due.is("undo", x.undo(), k);
      Due.is("hour", x.count(3), Math.min(24, k + 1));
    }
    Due.is("none", x.undo(), STATE);
    Due.is("the first hour is left", x.cloud(0, 0), 1);
    Due.is("as is what it was told", x.cloud(0, 4), 0);
    Due.is("height", x.cloud(0, 1), 0);
    x.hours(3);
    Due.is("acts", x.count(7), 3);
  }

  private static void looksAtClouds() {
    CloudHerd x = Due.told("k1,0;loooooo;uoooooo;a9,3;y31,0;");
    x.lift(0, 1);
    x.rains(0, 0);
    int[] white = {9, 1, 1, 0, 0};
    int[] stray = {31, 0, 0, 0, 1};
    for (int what = 0; what <= 4; what++) {
      Due.is("white " + what, x.cloud(0, what), white[what]);
      Due.is("stray " + what, x.cloud(1, what), stray[what]);
    }
    Due.is("what 5", x.cloud(0, 5), BAD);
    Due.is("what -1", x.cloud(0, -1), BAD);
    Due.is("cloud 2", x.cloud(2, 0), BAD);
    Due.is("cloud -1", x.cloud(-1, 0), BAD);
  }

  private static void looksAtCells() {
    CloudHerd x = Due.told("k1,0;leooooo;uoooooo;f1;h2;m31;a0,3;g1,0;p2,1;");
    Due.is("none", x.cell(0, 0), 0);
    Due.is("field", x.cell(1, 0), 1);
    Due.is("hay", x.cell(2, 0), 2);
    Due.is("hill", x.cell(31, 0), 3);
    Due.is("over 2", x.cell(2, 1), 4);
    x.hours(1);
    Due.is("gone ones are not over it", x.cell(1, 1), 1);
    Due.is("over 3", x.cell(3, 1), 4);
    x.lift(0, 1);
    Due.is("high ones are", x.cell(1, 1), 1);
    Due.is("cell 32", x.cell(32, 0), BAD);
    Due.is("cell -1", x.cell(-1, 0), BAD);
    Due.is("what 2", x.cell(0, 2), BAD);
    Due.is("what -1", x.cell(0, -1), BAD);
  }

  private static void looksAtWinds() {
    CloudHerd x = Due.told("k1,0;loewsno;unnsswe;");
    int[] winds = {0, 1, 2, 3, 4, 0, 4, 4, 3, 3, 2, 1};
    x.hours(1);
    for (int k = 0; k < 12; k++) {
      Due.is("wind " + k, x.wind(k / 6, k % 6), winds[k]);
    }
    Due.is("height 2", x.wind(2, 0), BAD);
    Due.is("height -1", x.wind(-1, 0), BAD);
    Due.is("place 6", x.wind(0, 6), BAD);
    Due.is("place -1", x.wind(0, -1), BAD);
    Due.is("no herd, bad", new CloudHerd().wind(2, 6), STATE);
  }

  private static void counts() {
    CloudHerd x = Due.told("k4,0;leooooo;uoooooo;f1;m2;m5;b0,9;g1,2;p5,9;g2,1;");
    x.row(3, 0, 0);
    x.hours(2);
    x.lift(2, 1);
    x.feed(1);
    x.feed(2);
    // g1 ran into b; b rained on f1 twice, 2 each; p left m5 at once; g2 had rained ahead of milk
    int[] due = {1, 4, 3, 2, 16, 0, 3, 3, 2};
    for (int what = 0; what <= 8; what++) {
      Due.is("count " + what, x.count(what), due[what]);
    }
    Due.is("count 9", x.count(9), BAD);
    Due.is("count -1", x.count(-1), BAD);
  }
}

/** Promises 9 to 15 and 36, and part 2: each sentence that names an edge, alone. */
public final class EdgesOfHoursTest {
  private static final int BAD = Edges.BAD, STATE = Edges.STATE, FULL = Edges.FULL;
  private static final String CALM = Edges.CALM;

  public static void main(String[] args) throws Exception {
    Edges.run(EdgesOfHoursTest.class, 9, 10, 11, 12, 13, 14, 15, 36);
  }

  // ---- part 2: drift

  /** The cell that an hour's low wind leaves a cloud over. */
  private static int drifted(char sort, int from, char direction) {
    return after("k1,0;l" + direction + "ooooo;uoooooo;" + sort + from + ",0;", 1);
  }

  private static int after(String text, int hours) {
    CloudHerd x = Due.told(text);
    x.hours(hours);
    return x.cloud(0, 0);
  }

  // "one CELL that way, if there is one": east, to x 7
  private static void p10_driftEast() {
    for (int cell = 0; cell < 32; cell++) {
      int due = cell % 8 == 7 ? cell : cell + 1;
      Due.is("east from " + cell, drifted('p', cell, 'e'), due);
      Due.is("stray, west wind, from " + cell, drifted('y', cell, 'w'), due);
    }
  }

  // west, to x 0
  private static void p10_driftWest() {
    for (int cell = 0; cell < 32; cell++) {
      int due = cell % 8 == 0 ? cell : cell - 1;
      Due.is("west from " + cell, drifted('p', cell, 'w'), due);
      Due.is("stray, east wind, from " + cell, drifted('y', cell, 'e'), due);
    }
  }

  // south, to y 3 ("from north to south")
  private static void p10_driftSouth() {
    for (int cell = 0; cell < 32; cell++) {
      int due = cell >= 24 ? cell : cell + 8;
      Due.is("south from " + cell, drifted('p', cell, 's'), due);
      Due.is("stray, north wind, from " + cell, drifted('y', cell, 'n'), due);
    }
  }

  // north, to y 0
  private static void p10_driftNorth() {
    for (int cell = 0; cell < 32; cell++) {
      int due = cell < 8 ? cell : cell - 8;
      Due.is("north from " + cell, drifted('p', cell, 'n'), due);
      Due.is("stray, south wind, from " + cell, drifted('y', cell, 's'), due);
    }
  }

  // no wind: none drifts
  private static void p10_driftNone() {
    for (char sort : "apbgy".toCharArray()) {
      Due.is(sort + " without a wind", drifted(sort, 12, 'o'), 12);
    }
  }

  // "a fog does not"
  private static void p10_fogDoesNotDrift() {
    for (char direction : "ewsn".toCharArray()) {
      Due.is("fog, " + direction, drifted('g', 12, direction), 12);
    }
  }

  // "a stray goes the other way", no other sort does
  private static void p10_strayGoesTheOtherWay() {
    for (char sort : "apb".toCharArray()) {
      Due.is(sort + " east", drifted(sort, 12, 'e'), 13);
      Due.is(sort + " south", drifted(sort, 12, 's'), 20);
    }
    Due.is("stray, east", drifted('y', 12, 'e'), 11);
    Due.is("stray, south", drifted('y', 12, 's'), 4);
  }

  // "that of the six at the place HOUR by 6 leaves over": each place, and again behind the sixth
  private static void p10_windsComeAgain() {
    for (int place = 0; place < 6; place++) {
      StringBuilder six = new StringBuilder("oooooo");
      six.setCharAt(place, 'e');
      CloudHerd low = Due.told("k1,0;l" + six + ";uoooooo;p8,0;");
      CloudHerd high = Due.told("k1,0;loooooo;u" + six + ";p8,0;");
      high.lift(0, 1);
      for (int hour = 0; hour < 24; hour++) {
        low.hours(1);
        high.hours(1);
        int due = 8 + (hour + 6 - place) / 6;
        Due.is("low, place " + place + " behind hour " + hour, low.cloud(0, 0), due);
        Due.is("high, place " + place + " behind hour " + hour, high.cloud(0, 0), due);
      }
    }
  }

  // low is for HEIGHT 0, high for HEIGHT 1
  private static void p10_eachHeightItsWind() {
    CloudHerd x = Due.told("k1,0;leeeeee;uwwwwww;p3,9;p11,9;");
    x.lift(1, 1);
    x.hours(1);
    Due.is("low", x.cloud(0, 0), 4);
    Due.is("high", x.cloud(1, 0), 10);
    x.lift(0, 1);
    x.lift(1, 0);
    x.hours(1);
    Due.is("high then", x.cloud(0, 0), 3);
    Due.is("low then", x.cloud(1, 0), 11);
  }

  // "all CLOUDS that are not GONE drift"
  private static void p10_goneDoesNotDrift() {
    CloudHerd x = Due.told("k1,0;leweeee;uoooooo;g1,0;p0,0;");
    x.hours(1);
    Due.is("gone", x.cloud(1, 3), 1);
    x.hours(1);
    Due.is("it is where it was", x.cloud(1, 0), 1);
  }

  // ---- part 2: run together

  // "First all CLOUDS .. drift .. Then they run together": two that change places do not
  private static void p10_changingPlaces() {
    CloudHerd x = Due.told("k1,0;leooooo;uoooooo;p8,3;y9,4;");
    x.hours(1);
    Due.is("p", x.cloud(0, 0), 9);
    Due.is("y", x.cloud(1, 0), 8);
    Due.is("not gone", x.count(6), 2);
  }

  // one comes where another just left
  private static void p10_oneBehindAnother() {
    CloudHerd x = Due.told("k1,0;leooooo;uoooooo;p8,3;p9,4;p10,5;");
    x.hours(1);
    Due.is("not gone", x.count(6), 3);
  }

  // "in a CELL": beside one another they do not
  private static void p10_beside() {
    CloudHerd x = Due.told(CALM + "p9,1;p8,1;p10,1;p1,1;p17,1;");
    x.hours(1);
    Due.is("not gone", x.count(6), 5);
  }

  // "at a HEIGHT": above one another they do not, at HEIGHT 1 they do
  private static void p10_atAHeight() {
    CloudHerd x = Due.told("k1,0;leooooo;ueooooo;p0,9;g1,9;");
    x.lift(0, 1);
    x.hours(1);
    Due.is("over the same cell", x.cell(1, 1), 3);
    CloudHerd y = Due.told("k1,0;loooooo;ueeoooo;p6,9;p7,9;");
    y.lift(0, 1);
    y.lift(1, 1);
    y.hours(1);
    Due.is("on high", y.cloud(1, 3), 1);
    Due.is("water", y.cloud(0, 2), 14);
  }

  // "one of a lesser number": that one stays, whoever came
  private static void p10_lesserNumberStays() {
    CloudHerd came = Due.told("k1,0;leooooo;uoooooo;p0,3;g1,0;");
    came.hours(1);
    Due.is("0 came", came.cloud(0, 3), 0);
    Due.is("1 is gone", came.cloud(1, 3), 1);
    CloudHerd stood = Due.told("k1,0;leooooo;uoooooo;g1,0;p0,3;");
    stood.hours(1);
    Due.is("0 stood", stood.cloud(0, 3), 0);
    Due.is("1 is gone", stood.cloud(1, 3), 1);
  }

  // "of a lesser number that is not GONE": over one that is GONE nothing happens
  private static void p10_overOneThatIsGone() {
    // the sheep comes over 9, then over 1; the fog is gone over 9; the stray comes over 1, then 9
    CloudHerd x = Due.told("k1,0;lenoooo;uoooooo;p8,1;g9,1;y2,1;");
    x.hours(2);
    Due.is("sheep", x.cloud(0, 0), 1);
    Due.is("the fog is gone", x.cloud(1, 3), 1);
    Due.is("the stray is over the same cell", x.cloud(2, 0), x.cloud(1, 0));
    Due.is("it is not gone", x.cloud(2, 3), 0);
    Due.is("the fog has none of its water", x.cloud(1, 2), 0);
  }

  // "(40 at most)"
  private static void p10_fortyWater() {
    int[][] due = {{20, 19, 39}, {20, 20, 40}};
    for (int[] d : due) {
      CloudHerd x = Due.told("k1,0;leooooo;uoooooo;p0," + d[0] + ";y2," + d[1] + ";");
      x.hours(1);
      Due.is("of two, " + d[2], x.cloud(0, 2), d[2]);
    }
    int[] third = {0, 1, 20};
    for (int water : third) {
      CloudHerd x = Due.told("k1,0;leooooo;uoooooo;p8,20;y10,20;g9," + water + ";");
      x.hours(1);
      Due.is("of three, 40 and " + water, x.cloud(0, 2), 40);
    }
  }

  // 40 of more, then more comes
  private static void p10_fortyWaterLater() {
    CloudHerd x = Due.told("k1,0;leeoooo;uoooooo;p0,20;g1,20;g2,5;");
    x.hours(1);
    Due.is("40", x.cloud(0, 2), 40);
    x.hours(1);
    // the fog over 2 had rained 1 of 5
    Due.is("40 yet", x.cloud(0, 2), 40);
    Due.is("gone", x.cloud(2, 3), 1);
  }

  // "it is GONE, with WATER 0"
  private static void p10_goneWithoutWater() {
    CloudHerd x = Due.told("k1,0;leooooo;uoooooo;p0,20;g1,20;");
    x.hours(1);
    Due.is("gone", x.cloud(1, 3), 1);
    Due.is("water", x.cloud(1, 2), 0);
  }

  // one without water runs together as well
  private static void p10_runWithoutWater() {
    CloudHerd x = Due.told("k1,0;leooooo;uoooooo;p0,0;g1,0;");
    x.hours(1);
    Due.is("gone", x.cloud(1, 3), 1);
    Due.is("water", x.cloud(0, 2), 0);
  }

  // at the edge of the cells they run together
  private static void p10_runAtTheEdge() {
    CloudHerd x = Due.told("k1,0;leooooo;uoooooo;p6,2;p7,3;");
    x.hours(1);
    Due.is("gone", x.cloud(1, 3), 1);
    Due.is("over 7", x.cloud(0, 0), 7);
    Due.is("water", x.cloud(0, 2), 5);
    CloudHerd rows = Due.told("k1,0;leooooo;uoooooo;p7,2;p8,3;");
    rows.hours(1);
    Due.is("7 and 8 are no neighbours", rows.count(6), 2);
  }

  // three, four at once: all are GONE into the least
  private static void p10_allIntoTheLeast() {
    CloudHerd x = Due.told("k1,0;leooooo;uoooooo;p31,1;g9,3;p8,4;y10,5;");
    x.hours(1);
    Due.is("1 has all, less the rain", x.cloud(1, 2), 11);
    Due.is("2 is gone", x.cloud(2, 3), 1);
    Due.is("3 is gone", x.cloud(3, 3), 1);
    Due.is("0 is not", x.cloud(0, 3), 0);
    Due.is("two are left", x.count(6), 2);
  }

  // ---- part 2: rain

  /** What an hour over a parish leaves of a cloud's water, and what is earned with k7,3. */
  private static void rained(char sort, char parish, int water, int left, int earned) {
    CloudHerd x = Due.told("k7,3;loooooo;uoooooo;" + parish + "12;" + sort + "12," + water + ";");
    String what = sort + " over " + parish + " with " + water;
    Due.is("earned by " + what, x.hours(1), earned);
    Due.is("water of " + what, x.cloud(0, 2), left);
  }

  // "of a white one 1 over a field", "WATER of each at most"
  private static void p10_whiteOverField() {
    rained('a', 'f', 0, 0, 0);
    rained('a', 'f', 1, 0, 7);
    rained('a', 'f', 2, 1, 7);
    rained('a', 'f', 20, 19, 7);
  }

  // "if it is told to rain, else 0"
  private static void p10_whiteToldNotTo() {
    CloudHerd x = Due.told("k7,3;loooooo;uoooooo;f12;a12,2;");
    x.rains(0, 0);
    Due.is("told not to", x.hours(1), 0);
    Due.is("water", x.cloud(0, 2), 2);
    x.rains(0, 1);
    Due.is("told to", x.hours(1), 7);
  }

  // a white one over hay, over nothing: 0
  private static void p10_whiteElsewhere() {
    rained('a', 'h', 5, 5, 0);
    CloudHerd x = Due.told(CALM + "a12,5;");
    x.hours(1);
    Due.is("over nothing", x.cloud(0, 2), 5);
  }

  // "of a sheep 0"
  private static void p10_sheep() {
    rained('p', 'f', 5, 5, 0);
    rained('p', 'h', 5, 5, 0);
  }

  // "of a black one 2", "WATER of each at most"
  private static void p10_black() {
    rained('b', 'f', 0, 0, 0);
    rained('b', 'f', 1, 0, 7);
    rained('b', 'f', 2, 0, 14);
    rained('b', 'f', 3, 1, 14);
    rained('b', 'h', 0, 0, 0);
    rained('b', 'h', 1, 0, -3);
    rained('b', 'h', 2, 0, -6);
    rained('b', 'h', 3, 1, -6);
  }

  // a black one rains over nothing, too, and from on high
  private static void p10_blackEverywhere() {
    CloudHerd x = Due.told(CALM + "b12,5;");
    Due.is("earned", x.hours(1), 0);
    Due.is("over nothing", x.cloud(0, 2), 3);
    CloudHerd high = Due.told("k7,3;loooooo;uoooooo;f12;b12,5;");
    high.lift(0, 1);
    Due.is("from on high", high.hours(1), 14);
  }

  // "of a fog, a stray 1"
  private static void p10_fogAndStray() {
    for (char sort : "gy".toCharArray()) {
      rained(sort, 'f', 0, 0, 0);
      rained(sort, 'f', 1, 0, 7);
      rained(sort, 'f', 2, 1, 7);
      rained(sort, 'h', 0, 0, 0);
      rained(sort, 'h', 1, 0, -3);
      rained(sort, 'h', 2, 1, -3);
    }
  }

  // a white one rains from on high, too
  private static void p10_whiteFromOnHigh() {
    CloudHerd x = Due.told("k7,3;loooooo;uoooooo;f12;a12,3;");
    x.lift(0, 1);
    Due.is("earned", x.hours(1), 7);
    Due.is("water", x.cloud(0, 2), 0);
  }

  // "EARNED is more by PAY .., less by FINE": it can be less than 0, and both at once
  private static void p10_bothAtOnce() {
    CloudHerd x = Due.told("k7,3;loooooo;uoooooo;f1;h2;g1,1;b2,5;");
    Due.is("7 less 6", x.hours(1), 1);
    Due.is("less 6", x.hours(1), -5);
    Due.is("less 3", x.hours(1), -8);
    Due.is("none left", x.hours(1), -8);
  }

  // rain is behind the runs: the one that stays rains what the other had
  private static void p10_rainBehindRuns() {
    CloudHerd x = Due.told("k7,3;leooooo;uoooooo;f1;a0,0;g1,1;");
    Due.is("one rain", x.hours(1), 7);
    Due.is("water", x.cloud(0, 2), 0);
  }

  // rain is behind the drift: over the cell that it comes to
  private static void p10_rainBehindDrift() {
    CloudHerd x = Due.told("k7,3;leooooo;uoooooo;h0;f1;b0,2;");
    Due.is("over 1", x.hours(1), 14);
  }

  // ---- part 2: milk

  private static void milked(char sort, int water, int left, int milk) {
    CloudHerd x = Due.told("k7,3;loooooo;uoooooo;m12;" + sort + "12," + water + ";");
    x.hours(1);
    Due.is("water of " + sort + " with " + water, x.cloud(0, 2), left);
    Due.is("milk of " + sort + " with " + water, x.count(5), milk);
  }

  // "1 WATER less, if it has any: MILK is 1 more"
  private static void p10_milk() {
    for (char sort : "ap".toCharArray()) {
      milked(sort, 0, 0, 0);
      milked(sort, 1, 0, 1);
      milked(sort, 2, 1, 1);
      milked(sort, 20, 19, 1);
    }
  }

  // "Then": milk is behind the rain
  private static void p10_milkBehindRain() {
    milked('b', 2, 0, 0);
    milked('b', 3, 0, 1);
    milked('b', 4, 1, 1);
    milked('g', 1, 0, 0);
    milked('g', 2, 0, 1);
    milked('y', 1, 0, 0);
    milked('y', 2, 0, 1);
  }

  // "each that is low over a hill": not on high
  private static void p10_noMilkFromOnHigh() {
    CloudHerd x = Due.told(CALM + "m12;p12,9;");
    x.lift(0, 1);
    x.hours(1);
    Due.is("milk", x.count(5), 0);
    Due.is("water", x.cloud(0, 2), 7);
    x.lift(0, 0);
    x.hours(1);
    Due.is("milk", x.count(5), 1);
  }

  // not over a field, hay, nothing
  private static void p10_noMilkElsewhere() {
    CloudHerd x = Due.told(CALM + "f1;h2;m4;p1,9;p2,9;p3,9;p4,9;");
    x.hours(1);
    int[] water = {9, 9, 9, 8};
    for (int k = 0; k < 4; k++) {
      Due.is("water " + k, x.cloud(k, 2), water[k]);
    }
    Due.is("milk", x.count(5), 1);
  }

  // ---- promise 9

  // "STATE: none"
  private static void p09_none() {
    Due.is("no herd", new CloudHerd().undo(), STATE);
    Edges.refuses("no act", Due.told(CALM + "a0,9;"), STATE, (x, v) -> x.undo());
    CloudHerd one = Due.told(CALM + "a0,9;");
    one.hours(1);
    Due.is("one", one.undo(), 0);
    Edges.refuses("no more", one, STATE, (x, v) -> x.undo());
  }

  // "ACTS (24 at most are kept": 23, 24
  private static void p09_twentyFour() {
    CloudHerd x = Due.told(CALM + "a0,9;");
    x.hours(23);
    Due.is("23", x.count(7), 23);
    x.hours(1);
    Due.is("24", x.count(7), 24);
    for (int k = 23; k >= 0; k--) {
      Due.is("undo", x.undo(), k);
    }
    Due.is("all are undone", x.count(3), 0);
    Due.is("no more", x.undo(), STATE);
  }

  // "of more the oldest is forgotten": 25, 26
  private static void p09_oldestIsForgotten() {
    for (int more = 1; more <= 2; more++) {
      CloudHerd x = Due.told(CALM + "a0,9;");
      x.hours(24);
      x.hours(more);
      Due.is("24 of " + (24 + more), x.count(7), 24);
      for (int k = 23; k >= 0; k--) {
        Due.is("undo", x.undo(), k);
        Due.is("hour", x.count(3), k + more);
      }
      Due.is("no more", x.undo(), STATE);
      Due.is("what is forgotten stays done", x.count(3), more);
    }
  }

  // as well of acts of all sorts, over twice 24
  private static void p09_oldestOfAllSorts() {
    CloudHerd x = Due.told("k1,0;leeeeee;uwwwwww;f1;m2;a0,20;");
    String[] seen = new String[50];
    for (int k = 0; k < 50; k++) {
      seen[k] = k < 26 ? "" : state(x);
      switch (k % 4) {
        case 0: x.lift(0, k % 8 == 0 ? 1 : 0); break;
        case 1: x.rains(0, k % 8 == 1 ? 0 : 1); break;
        default: x.hours(1);
      }
    }
    for (int k = 49; k >= 26; k--) {
      Due.is("undo", x.undo(), k - 26);
      Due.same("as it was ahead of act " + k, state(x), seen[k]);
    }
    Due.is("no more", x.undo(), STATE);
  }

  /** In few calls: what acts can change. */
  private static String state(CloudHerd x) {
    return x.count(3) + " " + x.count(4) + " " + x.count(5) + " " + x.cloud(0, 0) + " "
        + x.cloud(0, 1) + " " + x.cloud(0, 2) + " " + x.cloud(0, 4);
  }

  // "the latest first": each of the acts gives back just what it changed
  private static void p09_latestFirst() {
    CloudHerd x = Due.told("k2,0;leeeeee;uwwwwww;f1;a0,20;g2,4;");
    x.hours(1);
    x.rains(0, 0);
    x.lift(0, 1);
    Due.is("lift undone", x.undo(), 2);
    Due.is("height", x.cloud(0, 1), 0);
    Due.is("water", x.cloud(0, 2), 19);
    Due.is("told yet", x.cloud(0, 4), 0);
    Due.is("told undone", x.undo(), 1);
    Due.is("told", x.cloud(0, 4), 1);
    Due.is("hour yet", x.count(3), 1);
    Due.is("hour undone", x.undo(), 0);
    Due.is("hour", x.count(3), 0);
    Due.is("earned", x.count(4), 0);
    Due.is("cell", x.cloud(0, 0), 0);
    Due.is("water", x.cloud(0, 2), 20);
  }

  // a lift of WATER 1, 0 is undone to just that
  private static void p09_liftOfLittleWater() {
    for (int water = 0; water <= 3; water++) {
      CloudHerd x = Due.told(CALM + "a0," + water + ";");
      x.lift(0, 1);
      x.undo();
      Due.is("water", x.cloud(0, 2), water);
      Due.is("height", x.cloud(0, 1), 0);
    }
  }

  // one that was GONE is back, with its water; 40 at most is undone, too
  private static void p09_goneIsBack() {
    CloudHerd x = Due.told("k1,0;leooooo;uoooooo;p8,20;y10,20;g9,20;");
    x.hours(1);
    Due.is("40 of 60", x.cloud(0, 2), 40);
    x.undo();
    int[] cells = {8, 10, 9};
    for (int k = 0; k < 3; k++) {
      Due.is("water", x.cloud(k, 2), 20);
      Due.is("gone", x.cloud(k, 3), 0);
      Due.is("cell", x.cloud(k, 0), cells[k]);
    }
  }

  // WATER 40, the most, is given back
  private static void p09_fortyIsBack() {
    CloudHerd x = Due.told("k1,0;leooooo;uoooooo;m1;p8,20;y10,20;p31,20;");
    x.hours(1);
    Due.is("40", x.cloud(0, 2), 40);
    x.lift(0, 1);
    Due.is("38", x.cloud(0, 2), 38);
    x.undo();
    Due.is("40 again", x.cloud(0, 2), 40);
    x.hours(1);
    x.undo();
    Due.is("40 again", x.cloud(0, 2), 40);
  }

  // undo is no act: behind it others can be done and undone
  private static void p09_noAct() {
    CloudHerd x = Due.told(CALM + "a0,9;");
    x.hours(24);
    x.undo();
    x.undo();
    Due.is("22", x.count(7), 22);
    x.hours(2);
    Due.is("24", x.count(7), 24);
    x.hours(1);
    Due.is("24", x.count(7), 24);
    for (int k = 0; k < 24; k++) {
      x.undo();
    }
    Due.is("hour", x.count(3), 1);
  }

  // ---- promise 10

  // "n HOURS (1 to 24)"
  private static void p10_hours() {
    Edges.takes("hours", 1, 24, (x, v) -> x.hours(v));
    CloudHerd x = Due.told(CALM);
    x.hours(24);
    Due.is("24", x.count(3), 24);
    x.hours(1);
    Due.is("25", x.count(3), 25);
  }

  // "an ACT each"
  private static void p10_anActEach() {
    for (int n : new int[] {1, 2, 24}) {
      CloudHerd x = Due.told(CALM);
      x.hours(n);
      Due.is("acts", x.count(7), n);
      x.undo();
      Due.is("hour", x.count(3), n - 1);
    }
  }

  // "STATE: no HERD (ahead of BAD)"
  private static void p10_noHerd() {
    for (int n : new int[] {-1, 0, 1, 24, 25}) {
      Edges.refuses("no herd " + n, new CloudHerd(), STATE, (x, v) -> x.hours(n));
    }
  }

  private static CloudHerd atHour(int hour) {
    CloudHerd x = Due.told(CALM + "a0,9;");
    for (int k = 0; k < hour / 24; k++) {
      x.hours(24);
    }
    if (hour % 24 != 0) {
      x.hours(hour % 24);
    }
    return x;
  }

  // "FULL: more than 999 would be gone"
  private static void p10_full() {
    Due.is("998 and 1", atHour(998).hours(1), 0);
    Edges.refuses("999 and 1", atHour(999), FULL, (x, v) -> x.hours(1));
    Due.is("975 and 24", atHour(975).hours(24), 0);
    Edges.refuses("976 and 24", atHour(976), FULL, (x, v) -> x.hours(24));
    Due.is("976 and 23", atHour(976).hours(23), 0);
    Edges.refuses("998 and 2", atHour(998), FULL, (x, v) -> x.hours(2));
  }

  // BAD is ahead of FULL
  private static void p10_badAheadOfFull() {
    Edges.refuses("0", atHour(999), BAD, (x, v) -> x.hours(0));
    Edges.refuses("25", atHour(999), BAD, (x, v) -> x.hours(25));
  }

  // hours that are undone are not gone
  private static void p10_undoneAreNotGone() {
    CloudHerd x = atHour(999);
    x.undo();
    Due.is("999 again", x.hours(1), 0);
    Due.is("1000", x.hours(1), FULL);
  }

  // acts other than hours are not FULL
  private static void p10_otherActsAtTheEnd() {
    CloudHerd x = atHour(999);
    Due.is("lift", x.lift(0, 1), 7);
    Due.is("rains", x.rains(0, 0), 1);
    Due.is("acts", x.count(7), 24);
  }

  // a new herd begins at HOUR 0 again
  private static void p10_newHerdBeginsAgain() {
    CloudHerd x = atHour(999);
    Due.tell(x, CALM);
    Due.is("24", x.hours(24), 0);
  }

  // ---- promise 11

  // BAD: there is no such CLOUD
  private static void p11_cloud() {
    Edges.takesClouds((x, v) -> x.lift(v, 1));
  }

  // BAD: lifted (1), let down (0), nothing else
  private static void p11_up() {
    Edges.takes("up", 0, 1, (x, v) -> x.lift(0, v));
  }

  // "WATER 2 less, 0 at least"
  private static void p11_water() {
    int[] left = {0, 0, 0, 1, 2};
    for (int water = 0; water < left.length; water++) {
      CloudHerd x = Due.told(CALM + "b0," + water + ";");
      Due.is("lift with " + water, x.lift(0, 1), left[water]);
      Due.is("water", x.cloud(0, 2), left[water]);
      Due.is("height", x.cloud(0, 1), 1);
    }
    Due.is("with 20", Due.told(CALM + "p0,20;").lift(0, 1), 18);
  }

  // let down: WATER is as it was
  private static void p11_letDown() {
    for (int water : new int[] {2, 3, 20}) {
      CloudHerd x = Due.told(CALM + "a0," + water + ";");
      x.lift(0, 1);
      Due.is("let down", x.lift(0, 0), water - 2);
      Due.is("height", x.cloud(0, 1), 0);
    }
  }

  // "STATE: it is so"
  private static void p11_itIsSo() {
    for (char sort : "apb".toCharArray()) {
      CloudHerd one = Due.told(CALM + sort + "0,9;");
      Edges.refuses("low", one, STATE, (x, v) -> x.lift(0, 0));
      one.lift(0, 1);
      Edges.refuses("high", one, STATE, (x, v) -> x.lift(0, 1));
    }
  }

  /** Cloud 1, a white one, is GONE; as is 3, a sheep, from on high. */
  private static CloudHerd withGone() {
    CloudHerd x = Due.told("k1,0;leooooo;ueooooo;g1,9;a0,9;p14,9;p15,9;");
    x.lift(2, 1);
    x.lift(3, 1);
    x.hours(1);
    return x;
  }

  // "STATE: .. GONE"
  private static void p11_gone() {
    for (int up = 0; up <= 1; up++) {
      int to = up;
      Edges.refuses("low", withGone(), STATE, (x, v) -> x.lift(1, to));
      Edges.refuses("high", withGone(), STATE, (x, v) -> x.lift(3, to));
    }
    Due.is("the one that stays", withGone().lift(2, 0), 14);
  }

  // "STATE: .. a fog, a stray"
  private static void p11_fogAndStray() {
    for (char sort : "gy".toCharArray()) {
      for (int up = 0; up <= 1; up++) {
        int to = up;
        Edges.refuses(sort + " " + up, Due.told(CALM + sort + "0,9;"), STATE,
            (x, v) -> x.lift(0, to));
      }
    }
    for (char sort : "apb".toCharArray()) {
      Due.is(sort + " is lifted", Due.told(CALM + sort + "0,9;").lift(0, 1), 7);
    }
  }

  // BAD is ahead of STATE
  private static void p11_badAheadOfState() {
    for (int up : new int[] {-1, 2}) {
      Due.is("fog", Due.told(CALM + "g0,9;").lift(0, up), BAD);
      Due.is("gone", withGone().lift(1, up), BAD);
    }
  }

  // an ACT
  private static void p11_act() {
    CloudHerd x = Due.told(CALM + "a0,9;");
    x.lift(0, 1);
    x.lift(0, 0);
    Due.is("acts", x.count(7), 2);
    Due.is("undone: up again", x.undo(), 1);
    Due.is("height", x.cloud(0, 1), 1);
    Due.is("undone: down again", x.undo(), 0);
    Due.is("water", x.cloud(0, 2), 9);
  }

  // ---- promise 12

  // BAD: there is no such CLOUD
  private static void p12_cloud() {
    Edges.takesClouds((x, v) -> x.rains(v, 0));
  }

  // BAD: to rain (1), or not (0), nothing else
  private static void p12_on() {
    Edges.takes("on", 0, 1, (x, v) -> x.rains(0, v));
  }

  // "what it was told"
  private static void p12_whatItWasTold() {
    CloudHerd x = Due.told(CALM + "a0,9;p1,9;");
    for (int cloud = 0; cloud < 2; cloud++) {
      Due.is("at first", x.rains(cloud, 1), 1);
      Due.is("told to", x.rains(cloud, 0), 1);
      Due.is("told not to", x.rains(cloud, 0), 0);
      Due.is("told not to", x.rains(cloud, 1), 0);
      Due.is("told to", x.cloud(cloud, 4), 1);
    }
  }

  // "STATE: it is GONE"
  private static void p12_gone() {
    for (int on = 0; on <= 1; on++) {
      int to = on;
      Edges.refuses("white", withGone(), STATE, (x, v) -> x.rains(1, to));
      Edges.refuses("sheep", withGone(), STATE, (x, v) -> x.rains(3, to));
    }
    Due.is("the one that stays", withGone().rains(2, 0), 1);
  }

  // "STATE: .. neither a white one nor a sheep"
  private static void p12_others() {
    for (char sort : "bgy".toCharArray()) {
      for (int on = 0; on <= 1; on++) {
        int to = on;
        Edges.refuses(sort + " " + on, Due.told(CALM + sort + "0,9;"), STATE,
            (x, v) -> x.rains(0, to));
      }
    }
  }

  // BAD is ahead of STATE
  private static void p12_badAheadOfState() {
    for (int on : new int[] {-1, 2}) {
      Due.is("black", Due.told(CALM + "b0,9;").rains(0, on), BAD);
      Due.is("gone", withGone().rains(1, on), BAD);
    }
  }

  // an ACT, also where it was told so already
  private static void p12_act() {
    CloudHerd x = Due.told(CALM + "a0,9;");
    x.rains(0, 1);
    Due.is("acts", x.count(7), 1);
    x.rains(0, 0);
    Due.is("acts", x.count(7), 2);
    x.undo();
    Due.is("told to again", x.cloud(0, 4), 1);
  }

  // ---- promise 13

  // BAD: there is no such CLOUD
  private static void p13_cloud() {
    Edges.takesClouds((x, v) -> x.cloud(v, 0));
  }

  // BAD: 0 to 4
  private static void p13_what() {
    Edges.takes("what", 0, 4, (x, v) -> x.cloud(0, v));
  }

  // of the first cloud, and of the last
  private static void p13_firstAndLast() {
    CloudHerd x = Due.told(CALM + "a31,20;p30,1;b29,1;g28,1;y0,0;");
    Due.is("cell of the first", x.cloud(0, 0), 31);
    Due.is("water of the first", x.cloud(0, 2), 20);
    Due.is("cell of the last", x.cloud(4, 0), 0);
    Due.is("water of the last", x.cloud(4, 2), 0);
  }

  // "whether it is GONE (1, 0)": it has its cell, its height, no water
  private static void p13_gone() {
    CloudHerd x = withGone();
    int[] white = {1, 0, 0, 1, 1};
    int[] sheep = {15, 1, 0, 1, 1};
    for (int what = 0; what <= 4; what++) {
      Due.is("white " + what, x.cloud(1, what), white[what]);
      Due.is("sheep " + what, x.cloud(3, what), sheep[what]);
    }
  }

  // "what it is told (1: to rain; fogs, strays, black ones, too)"
  private static void p13_told() {
    CloudHerd x = Due.told(CALM + "a1,1;p2,1;b3,1;g4,1;y5,1;");
    for (int cloud = 0; cloud < 5; cloud++) {
      Due.is("told " + cloud, x.cloud(cloud, 4), 1);
    }
    x.rains(0, 0);
    x.rains(1, 0);
    int[] told = {0, 0, 1, 1, 1};
    for (int cloud = 0; cloud < 5; cloud++) {
      Due.is("told " + cloud, x.cloud(cloud, 4), told[cloud]);
    }
  }

  // ---- promise 14

  // BAD: a CELL
  private static void p14_cell() {
    Edges.takes("cell", 0, 31, (x, v) -> x.cell(v, 0));
    Edges.takes("cell", 0, 31, (x, v) -> x.cell(v, 1));
  }

  // BAD: what
  private static void p14_what() {
    Edges.takes("what", 0, 1, (x, v) -> x.cell(0, v));
  }

  // "STATE: no HERD (ahead of BAD)"
  private static void p14_noHerd() {
    Edges.refuses("as told", new CloudHerd(), STATE, (x, v) -> x.cell(0, 0));
    Edges.refuses("cell 32", new CloudHerd(), STATE, (x, v) -> x.cell(32, 0));
    Edges.refuses("what 2", new CloudHerd(), STATE, (x, v) -> x.cell(0, 2));
  }

  // parishes at the first cell, and at the last
  private static void p14_firstAndLast() {
    CloudHerd x = Due.told(CALM + "f0;h31;m1;");
    int[] due = new int[32];
    due[0] = 1;
    due[31] = 2;
    due[1] = 3;
    for (int cell = 0; cell < 32; cell++) {
      Due.is("parish " + cell, x.cell(cell, 0), due[cell]);
    }
  }

  // "CLOUDS over it (bits; not GONE)": the first and the last, low and high
  private static void p14_clouds() {
    CloudHerd x = Due.told("k1,0;leooooo;ueooooo;p0,9;p31,1;p30,1;p16,1;g1,9;");
    Due.is("none", x.cell(2, 1), 0);
    Due.is("the first", x.cell(0, 1), 1);
    Due.is("the last", x.cell(1, 1), 16);
    x.lift(0, 1);
    x.hours(1);
    Due.is("both", x.cell(1, 1), 17);
    Due.is("one of two", x.cell(31, 1), 2);
    Due.is("gone", x.cloud(2, 3), 1);
  }

  // ---- promise 15

  // BAD: a HEIGHT
  private static void p15_height() {
    Edges.takes("height", 0, 1, (x, v) -> x.wind(v, 0));
  }

  // BAD: a place; there is none behind the six
  private static void p15_place() {
    Edges.takes("place", 0, 5, (x, v) -> x.wind(0, v));
    Edges.takes("place", 0, 5, (x, v) -> x.wind(1, v));
  }

  // "STATE: no HERD (ahead of BAD)"
  private static void p15_noHerd() {
    Edges.refuses("as told", new CloudHerd(), STATE, (x, v) -> x.wind(0, 0));
    Edges.refuses("height 2", new CloudHerd(), STATE, (x, v) -> x.wind(2, 0));
    Edges.refuses("place 6", new CloudHerd(), STATE, (x, v) -> x.wind(0, 6));
  }

  // a place of the six, not one from now on
  private static void p15_whateverTheHour() {
    CloudHerd x = Due.told("k1,0;lewsnoo;uoonsew;");
    int[] due = {1, 2, 3, 4, 0, 0, 0, 0, 4, 3, 1, 2};
    for (int hour = 0; hour < 8; hour++) {
      for (int k = 0; k < 12; k++) {
        Due.is("wind " + k + " in hour " + hour, x.wind(k / 6, k % 6), due[k]);
      }
      x.hours(1);
    }
  }

  // ---- promise 36

  // BAD: 0 to 8
  private static void p36_what() {
    Edges.takes("what", 0, 8, (x, v) -> x.count(v));
    Edges.takes("what, without a herd", CloudHerd::new, 0, 8, (x, v) -> x.count(v));
  }

  // each at its most
  private static void p36_most() {
    CloudHerd x = Due.told("k9,0;loooooo;uoooooo;m1;m2;m3;m4;m5;m6;m7;m8;p1,20;p2,20;p3,20;p4,20;p5,20;");
    for (int row = 0; row < 8; row++) {
      x.row(row, 0, 0);
    }
    for (int k = 0; k < 41; k++) {
      x.hours(24);
    }
    x.hours(15);
    for (int k = 0; k < 121; k++) {
      x.feed(0);
    }
    int[] due = {8, 5, 8, 999, 0, 100, 5, 24, 120};
    for (int what = 0; what <= 8; what++) {
      Due.is("count " + what, x.count(what), due[what]);
    }
  }

  // "4 EARNED": less than 0, too
  private static void p36_earned() {
    CloudHerd x = Due.told("k9,9;loooooo;uoooooo;f1;h2;b1,20;b2,20;b3,20;");
    x.hours(1);
    Due.is("even", x.count(4), 0);
    CloudHerd y = Due.told("k9,9;loooooo;uoooooo;h2;b2,20;");
    y.hours(24);
    Due.is("less than 0", y.count(4), -180);
    CloudHerd z = Due.told("k9,9;loooooo;uoooooo;f2;b2,20;");
    z.hours(24);
    Due.is("more", z.count(4), 180);
  }

  // "An object is used for at most 512 calls": the 512th answers as an earlier one
  private static void p36_call512() {
    String text = CALM + "f0;a0,20;";
    CloudHerd x = Due.told(text);
    for (int made = text.length() + 2; made < 512; made++) {
      Due.is("call " + made, x.count(1), 1);
    }
    Due.is("call 512", x.hours(1), 1);
  }

  // "6 CLOUDS that are not GONE", of "1 CLOUDS"
  private static void p36_gone() {
    CloudHerd x = Due.told("k1,0;leeeeee;uoooooo;p8,1;p9,1;p10,1;p11,1;p12,1;");
    x.hours(24);
    Due.is("clouds", x.count(1), 5);
    Due.is("not gone", x.count(6), 1);
    x.undo();
    Due.is("not gone", x.count(6), 1);
  }
}

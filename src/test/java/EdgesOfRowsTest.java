/** Promises 2 to 5: each sentence that names an edge, alone. */
public final class EdgesOfRowsTest {
  private static final int NONE = Edges.NONE, BAD = Edges.BAD, NULL = Edges.NULL;
  private static final int PLACE = Edges.PLACE, SIZE = Edges.SIZE, STORE = Edges.STORE;
  private static final int LEAST = Edges.LEAST, MOST = Edges.MOST;

  public static void main(String[] args) throws Exception {
    Edges.run(EdgesOfRowsTest.class, 2, 3, 4, 5);
  }

  /** A fog, by which items can be seen, and no row. */
  private static CloudHerd bare() {
    return Due.told(Edges.CALM + "g0,0;");
  }

  private static void items(CloudHerd x, int row, int... due) {
    for (int k = 0; k < due.length; k++) {
      Due.is("item " + k + " of row " + row, Edges.item(x, row, k), due[k]);
    }
    Due.is("its end", x.set(row, due.length, 0), PLACE);
  }

  // ---- promise 2

  // "ROWS 0 .. 7"
  private static void p02_row() {
    Edges.takes("row", 0, 7, (x, v) -> x.row(v, 0, 1));
  }

  // "ROWS 0 .. 7": there can be eight at once
  private static void p02_eightRows() {
    CloudHerd x = new CloudHerd();
    for (int k = 0; k < 8; k++) {
      Due.is("row " + k, x.row(k, k % 3, k), k);
      Due.is("rows", x.count(0), k + 1);
    }
    for (int k = 0; k < 8; k++) {
      Due.is("items of row " + k, x.drop(k), k);
    }
  }

  // "are missing (at first)"
  private static void p02_missingAtFirst() {
    CloudHerd x = new CloudHerd();
    Due.is("rows", x.count(0), 0);
    for (int k = 0; k < 8; k++) {
      Due.is("row " + k, x.drop(k), NULL);
    }
  }

  // "a LANE (0 bytes, 1 shorts, 2 ints)"
  private static void p02_lane() {
    Edges.takes("lane", 0, 2, (x, v) -> x.row(0, v, 1));
  }

  // "0 to 40 ITEMS", "BAD: .. n above 40"
  private static void p02_mostItems() {
    for (int lane = 0; lane < 3; lane++) {
      CloudHerd x = new CloudHerd();
      Due.is("40 items", x.row(0, lane, 40), 40);
      Due.is("the last", x.set(0, 39, 1), 1);
      Due.is("behind it", x.set(0, 40, 1), PLACE);
      int of = lane;
      Edges.refuses("41 items", Edges.busy(), BAD, (y, v) -> y.row(0, of, 41));
      Edges.refuses("most items", Edges.busy(), BAD, (y, v) -> y.row(0, of, MOST));
    }
  }

  // "0 to 40 ITEMS"; "SIZE (fewer than none)"
  private static void p02_fewestItems() {
    for (int lane = 0; lane < 3; lane++) {
      CloudHerd x = new CloudHerd();
      Due.is("no items", x.row(0, lane, 0), 0);
      Due.is("it is there", x.count(0), 1);
      Due.is("no first", x.set(0, 0, 1), PLACE);
      int of = lane;
      Edges.finds("-1 items", Edges.busy(), SIZE, (y, v) -> y.row(0, of, -1));
      Edges.finds("least items", Edges.busy(), SIZE, (y, v) -> y.row(0, of, LEAST));
    }
  }

  // "BAD: ROW, LANE, n above 40; SIZE": BAD is ahead of SIZE
  private static void p02_badAheadOfSize() {
    Edges.refuses("row 8", Edges.busy(), BAD, (x, v) -> x.row(8, 0, -1));
    Edges.refuses("row -1", Edges.busy(), BAD, (x, v) -> x.row(-1, 0, -1));
    Edges.refuses("lane 3", Edges.busy(), BAD, (x, v) -> x.row(0, 3, -1));
    Edges.refuses("lane -1", Edges.busy(), BAD, (x, v) -> x.row(0, -1, -1));
  }

  // "n ITEMS, 0 at first"
  private static void p02_zeroAtFirst() {
    for (int lane = 0; lane < 3; lane++) {
      CloudHerd x = bare();
      x.row(5, lane, 40);
      items(x, 5, new int[40]);
    }
  }

  // "in place of what is there": its items, how many, its lane
  private static void p02_inPlaceOfWhatIsThere() {
    CloudHerd x = bare();
    Due.fill(x, 0, 0, 7, 7, 7, 7);
    Due.is("as many", x.row(0, 0, 4), 4);
    items(x, 0, 0, 0, 0, 0);
    Due.fill(x, 0, 0, 7, 7, 7, 7);
    Due.is("fewer", x.row(0, 1, 2), 2);
    items(x, 0, 0, 0);
    Due.is("its lane", x.set(0, 0, 128), 128);
    Due.is("more", x.row(0, 0, 4), 4);
    items(x, 0, 0, 0, 0, 0);
    Due.is("its lane", x.set(0, 0, 128), -128);
    Due.is("rows", x.count(0), 1);
  }

  // "What is refused, or found, changes nothing": the row that is there, and its items
  private static void p02_refusedLeavesTheRow() {
    CloudHerd x = bare();
    Due.fill(x, 3, 0, 1, 2, 3);
    x.row(3, 2, -1);
    x.row(3, 2, 41);
    x.row(3, 3, 1);
    Due.is("its lane", x.set(3, 0, 257), 1);
    items(x, 3, 1, 2, 3);
    Due.is("of a missing one", x.row(4, 0, -1), SIZE);
    Due.is("it is missing yet", x.drop(4), NULL);
  }

  // ---- promise 3

  // "BAD: ROW"
  private static void p03_row() {
    Edges.takes("row", 0, 7, (x, v) -> x.set(v, 0, 1));
  }

  // "NULL (a ROW that is missing)"
  private static void p03_missing() {
    CloudHerd x = Edges.busy();
    x.drop(7);
    Edges.finds("missing", x, NULL, (y, v) -> y.set(7, 0, 1));
  }

  // "PLACE (no such place of a ROW)"
  private static void p03_place() {
    Edges.takesPlaces("set", 1, (x, v) -> x.set(0, v, 1));
  }

  // the same for a row of 1, of 40, of none
  private static void p03_placeOfFewAndMany() {
    for (int n : new int[] {0, 1, 40}) {
      CloudHerd x = new CloudHerd();
      x.row(0, 2, n);
      Due.is("ahead of the first of " + n, x.set(0, -1, 9), PLACE);
      Due.is("first of " + n, x.set(0, 0, 9), n == 0 ? PLACE : 9);
      Due.is("last of " + n, x.set(0, n - 1, 8), n == 0 ? PLACE : 8);
      Due.is("behind the last of " + n, x.set(0, n, 9), PLACE);
    }
  }

  // "BAD: ROW; NULL; PLACE", in this order
  private static void p03_order() {
    CloudHerd x = new CloudHerd();
    Due.is("BAD ahead of NULL", x.set(8, -1, 1), BAD);
    Due.is("BAD ahead of NULL", x.set(-1, -1, 1), BAD);
    Due.is("NULL ahead of PLACE", x.set(0, -1, 1), NULL);
    Due.is("NULL ahead of PLACE", x.set(0, MOST, 1), NULL);
  }

  private static void lane(int lane, int... putAndDue) {
    for (int k = 0; k < putAndDue.length; k += 2) {
      CloudHerd x = new CloudHerd();
      x.row(0, lane, 1);
      Due.is("lane " + lane + " of " + putAndDue[k], x.set(0, 0, putAndDue[k]), putAndDue[k + 1]);
    }
  }

  // "its lowest bits, as many as the LANE has": bytes
  private static void p03_bytes() {
    lane(0, 0, 0, 127, 127, 128, -128, 255, -1, 256, 0, -1, -1, -128, -128, -129, 127,
        -256, 0, MOST, -1, LEAST, 0);
  }

  // shorts
  private static void p03_shorts() {
    lane(1, 0, 0, 128, 128, 32767, 32767, 32768, -32768, 65535, -1, 65536, 0, -1, -1,
        -32768, -32768, -32769, 32767, -65536, 0, MOST, -1, LEAST, 0);
  }

  // ints
  private static void p03_ints() {
    lane(2, 0, 0, 128, 128, 32768, 32768, 65536, 65536, -32769, -32769, MOST, MOST, LEAST, LEAST);
  }

  // "what it is then": it is so for later calls, too
  private static void p03_whatItIsThen() {
    CloudHerd x = bare();
    x.row(0, 0, 1);
    x.row(1, 1, 1);
    x.row(2, 2, 1);
    for (int lane = 0; lane < 3; lane++) {
      x.set(lane, 0, 256 + 31);
      Due.is("287 in lane " + lane, Edges.item(x, lane, 0), lane == 0 ? 31 : NONE);
      x.set(lane, 0, 65536 + 30);
      Due.is("65566 in lane " + lane, Edges.item(x, lane, 0), lane < 2 ? 30 : NONE);
    }
  }

  // "ITEM i becomes v", no other, and of no other row
  private static void p03_noOther() {
    CloudHerd x = bare();
    Due.fill(x, 0, 0, 1, 2, 3);
    Due.fill(x, 1, 0, 1, 2, 3);
    x.set(0, 1, 9);
    items(x, 0, 1, 9, 3);
    items(x, 1, 1, 2, 3);
    x.set(0, 3, 8);
    x.set(0, -1, 8);
    items(x, 0, 1, 9, 3);
  }

  // ---- promise 4

  // "BAD: ROWS": the one that items come from
  private static void p04_rowA() {
    Edges.takes("a", 0, 7, (x, v) -> x.copy(v, 0, 3, 0, 1));
  }

  // and the one that they come to
  private static void p04_rowB() {
    Edges.takes("b", 0, 7, (x, v) -> x.copy(3, 0, v, 0, 1));
  }

  private static CloudHerd without67() {
    CloudHerd x = Edges.busy();
    x.drop(6);
    x.drop(7);
    return x;
  }

  // NULL: one of both
  private static void p04_missing() {
    Edges.finds("a", without67(), NULL, (x, v) -> x.copy(6, 0, 1, 0, 1));
    Edges.finds("b", without67(), NULL, (x, v) -> x.copy(1, 0, 7, 0, 1));
    Edges.finds("both", without67(), NULL, (x, v) -> x.copy(6, 0, 7, 0, 1));
    Edges.finds("one and the same", without67(), NULL, (x, v) -> x.copy(6, 0, 6, 0, 0));
  }

  // "STORE (ROWS of two LANES)"
  private static void p04_lanes() {
    for (int a = 0; a < 3; a++) {
      for (int b = 0; b < 3; b++) {
        CloudHerd x = new CloudHerd();
        x.row(0, a, 2);
        x.row(1, b, 2);
        Due.is("lanes " + a + " and " + b, x.copy(0, 0, 1, 0, 1), a == b ? 1 : STORE);
        Due.is("no items", x.copy(0, 0, 1, 0, 0), a == b ? 0 : STORE);
      }
    }
  }

  // what is found changes nothing
  private static void p04_lanesChangeNothing() {
    CloudHerd x = bare();
    Due.fill(x, 0, 0, 1, 2);
    Due.fill(x, 1, 1, 3, 4);
    Edges.finds("two lanes", x, STORE, (y, v) -> y.copy(0, 0, 1, 0, 2));
    items(x, 0, 1, 2);
    items(x, 1, 3, 4);
  }

  // "BAD: ROWS; NULL; STORE; PLACE", in this order
  private static void p04_order() {
    CloudHerd x = new CloudHerd();
    x.row(0, 0, 2);
    x.row(1, 1, 2);
    Due.is("BAD b ahead of NULL a", x.copy(2, 0, 8, 0, 1), BAD);
    Due.is("BAD a ahead of NULL b", x.copy(-1, 0, 2, 0, 1), BAD);
    Due.is("NULL a ahead of PLACE", x.copy(2, -1, 0, 9, -1), NULL);
    Due.is("NULL b ahead of PLACE", x.copy(0, -1, 2, 9, -1), NULL);
    Due.is("STORE ahead of PLACE of i", x.copy(0, -1, 1, 0, 1), STORE);
    Due.is("STORE ahead of PLACE of j", x.copy(0, 0, 1, -1, 1), STORE);
    Due.is("STORE ahead of PLACE of n", x.copy(0, 0, 1, 0, -1), STORE);
    Due.is("STORE ahead of an end", x.copy(0, 0, 1, 0, 3), STORE);
    x.drop(0);
    Due.is("a row that was of another lane", x.copy(0, 0, 1, 0, 1), NULL);
  }

  // "PLACE (i .. below 0, or beyond an end)"
  private static void p04_placeOfI() {
    Edges.takesPlaces("i", 3, (x, v) -> x.copy(0, v, 1, 0, 3));
  }

  // "PLACE (.. j .. below 0, or beyond an end)"
  private static void p04_placeOfJ() {
    Edges.takesPlaces("j", 3, (x, v) -> x.copy(1, 0, 0, v, 3));
  }

  // "PLACE (.. n below 0 ..)"; none is fine
  private static void p04_fewest() {
    Due.is("none", Edges.busy().copy(0, 0, 1, 0, 0), 0);
    Edges.finds("-1", Edges.busy(), PLACE, (x, v) -> x.copy(0, 5, 1, 5, -1));
    Edges.finds("least", Edges.busy(), PLACE, (x, v) -> x.copy(0, 5, 1, 5, LEAST));
  }

  // "beyond an end": of the one, of the other
  private static void p04_most() {
    CloudHerd x = new CloudHerd();
    x.row(0, 0, 3);
    x.row(1, 0, 40);
    x.row(2, 0, 40);
    Due.is("all of a", x.copy(0, 0, 1, 0, 3), 3);
    Due.is("beyond a", x.copy(0, 0, 1, 0, 4), PLACE);
    Due.is("all of b", x.copy(1, 0, 0, 0, 3), 3);
    Due.is("beyond b", x.copy(1, 0, 0, 0, 4), PLACE);
    Due.is("40", x.copy(1, 0, 2, 0, 40), 40);
    Due.is("41", x.copy(1, 0, 2, 0, 41), PLACE);
    Due.is("most", x.copy(1, 0, 2, 0, MOST), PLACE);
    Due.is("most, from 1 on", x.copy(1, 1, 2, 1, MOST), PLACE);
  }

  // "beyond an end": none from the very end on is not, none from behind it is
  private static void p04_noneAtTheEnd() {
    CloudHerd x = new CloudHerd();
    x.row(0, 0, 3);
    x.row(1, 0, 5);
    x.row(2, 0, 0);
    Due.is("at the end of a", x.copy(0, 3, 1, 0, 0), 0);
    Due.is("behind the end of a", x.copy(0, 4, 1, 0, 0), PLACE);
    Due.is("at the end of b", x.copy(0, 0, 1, 5, 0), 0);
    Due.is("behind the end of b", x.copy(0, 0, 1, 6, 0), PLACE);
    Due.is("of an empty one", x.copy(2, 0, 2, 0, 0), 0);
    Due.is("behind an empty one", x.copy(2, 1, 2, 0, 0), PLACE);
    Due.is("one of an empty one", x.copy(2, 0, 1, 0, 1), PLACE);
    Due.is("one to an empty one", x.copy(1, 0, 2, 0, 1), PLACE);
  }

  // "n ITEMS of a from i on come to b from j on": these, and no other
  private static void p04_theseAlone() {
    CloudHerd x = bare();
    Due.fill(x, 0, 0, 1, 2, 3, 4, 5);
    Due.fill(x, 1, 0, 11, 12, 13, 14);
    Due.is("copy", x.copy(0, 2, 1, 1, 2), 2);
    items(x, 0, 1, 2, 3, 4, 5);
    items(x, 1, 11, 3, 4, 14);
    Due.is("none", x.copy(0, 0, 1, 0, 0), 0);
    items(x, 1, 11, 3, 4, 14);
    Due.is("beyond", x.copy(0, 0, 1, 0, 5), PLACE);
    items(x, 1, 11, 3, 4, 14);
  }

  // "as they were ahead": within one row, onwards and backwards
  private static void p04_asTheyWereAhead() {
    CloudHerd x = bare();
    Due.fill(x, 0, 0, 1, 2, 3, 4, 5, 6);
    Due.is("onwards by 1", x.copy(0, 0, 0, 1, 5), 5);
    items(x, 0, 1, 1, 2, 3, 4, 5);
    Due.fill(x, 0, 0, 1, 2, 3, 4, 5, 6);
    Due.is("backwards by 1", x.copy(0, 1, 0, 0, 5), 5);
    items(x, 0, 2, 3, 4, 5, 6, 6);
    Due.is("where they are", x.copy(0, 1, 0, 1, 5), 5);
    items(x, 0, 2, 3, 4, 5, 6, 6);
  }

  // ---- promise 5

  // BAD
  private static void p05_row() {
    Edges.takes("row", 0, 7, (x, v) -> x.drop(v));
  }

  // NULL
  private static void p05_missing() {
    CloudHerd x = Edges.busy();
    Due.is("there", x.drop(7), 12);
    Edges.finds("missing", x, NULL, (y, v) -> y.drop(7));
  }

  // "how many ITEMS it had": 0, 40
  private static void p05_howMany() {
    CloudHerd x = new CloudHerd();
    x.row(0, 2, 0);
    x.row(7, 0, 40);
    Due.is("none", x.drop(0), 0);
    Due.is("40", x.drop(7), 40);
  }

  // "A ROW is missing from now on", and no other
  private static void p05_missingFromNowOn() {
    CloudHerd x = Edges.busy();
    x.drop(3);
    Due.is("rows", x.count(0), 7);
    Due.is("set", x.set(3, 0, 1), NULL);
    Due.is("the one ahead", x.set(2, 0, 1), 1);
    Due.is("the one behind", x.set(4, 0, 1), 1);
  }

  // then a row can stand there again; its items are 0
  private static void p05_again() {
    CloudHerd x = bare();
    Due.fill(x, 0, 0, 7, 7);
    x.drop(0);
    Due.is("row", x.row(0, 0, 2), 2);
    items(x, 0, 0, 0);
  }
}

/** Promises 2 to 5, and of 36 and 37 what they say of rows. */
public final class RowsTest {
  private static final int BAD = CloudHerd.BAD, NULL = -1000011, PLACE = -1000012;
  private static final int SIZE = -1000014, STORE = -1000015;

  public static void main(String[] args) {
    makesRows();
    makesRowsAnew();
    setsItems();
    copiesItems();
    refusesCopies();
    dropsRows();
    keepsStatus();
    Due.end("RowsTest");
  }

  /** An item of 1 to 20: with four ones the value is 4 v by 4 v and 1. */
  private static int item(CloudHerd x, int row, int i, int lane) {
    Due.fill(x, 7, lane, 1, 1, 1, 1, 1);
    return x.copy(row, i, 7, 0, 1) == 1 ? (int) x.guardsValue(7, 0, 0) / 4 : -1;
  }

  private static void makesRows() {
    CloudHerd x = new CloudHerd();
    Due.is("row 0", x.row(0, 0, 40), 40);
    Due.is("row 7", x.row(7, 2, 0), 0);
    Due.is("count", x.count(0), 2);
    Due.is("row 0 anew", x.row(0, 1, 3), 3);
    Due.is("count", x.count(0), 2);
    Due.is("row 8", x.row(8, 0, 1), BAD);
    Due.is("row -1", x.row(-1, 0, 1), BAD);
    Due.is("lane -1", x.row(1, -1, 1), BAD);
    Due.is("lane 3", x.row(1, 3, 1), BAD);
    Due.is("41 items", x.row(1, 0, 41), BAD);
    Due.is("most items", x.row(1, 0, Integer.MAX_VALUE), BAD);
    Due.is("-1 items", x.row(1, 0, -1), SIZE);
    Due.is("least items", x.row(1, 0, Integer.MIN_VALUE), SIZE);
    Due.is("bad lane ahead of size", x.row(1, 3, -1), BAD);
    Due.is("bad row ahead of size", x.row(8, 0, -1), BAD);
    Due.is("row 1 is missing yet", x.drop(1), NULL);
    Due.is("-1 items for row 0", x.row(0, 0, -1), SIZE);
    Due.is("row 0 is as it was", x.drop(0), 3);
  }

  private static void makesRowsAnew() {
    CloudHerd x = new CloudHerd();
    Due.fill(x, 2, 2, 5, 5, 5, 5, 5);
    Due.is("five fives", x.guards(2, 0), 31);
    Due.is("row", x.row(2, 2, 5), 5);
    Due.is("zeros", x.guards(2, 0), BAD);
    for (int k = 1; k < 5; k++) {
      x.set(2, k, 5);
    }
    Due.is("a zero", x.guards(2, 0), BAD);
    x.set(2, 0, 5);
    Due.is("no zero", x.guards(2, 0), 31);
    x.row(2, 2, 2);
    x.row(2, 2, 5);
    Due.is("zeros behind a shorter one", x.guards(2, 0), BAD);
    x.set(2, 0, 5);
    x.set(2, 1, 5);
    Due.is("zeros behind it", x.guards(2, 0), BAD);
  }

  private static void setsItems() {
    CloudHerd x = new CloudHerd();
    for (int lane = 0; lane < 3; lane++) {
      x.row(lane, lane, 2);
    }
    int[] put = {0, 127, 128, 255, 256, -128, -129, 32767, 32768, 65535, 65536, -32769,
      Integer.MAX_VALUE, Integer.MIN_VALUE, -1};
    for (int v : put) {
      Due.is("byte " + v, x.set(0, 1, v), (byte) v);
      Due.is("short " + v, x.set(1, 1, v), (short) v);
      Due.is("int " + v, x.set(2, 1, v), v);
    }
    Due.is("place 2", x.set(0, 2, 1), PLACE);
    Due.is("place -1", x.set(0, -1, 1), PLACE);
    Due.is("least place", x.set(0, Integer.MIN_VALUE, 1), PLACE);
    Due.is("most place", x.set(0, Integer.MAX_VALUE, 1), PLACE);
    Due.is("missing", x.set(3, 0, 1), NULL);
    Due.is("missing, no place", x.set(3, -1, 1), NULL);
    Due.is("row 8", x.set(8, 0, 1), BAD);
    Due.is("row -1", x.set(-1, 0, 1), BAD);
    x.row(4, 0, 0);
    Due.is("an empty row", x.set(4, 0, 1), PLACE);
  }

  private static void copiesItems() {
    CloudHerd x = new CloudHerd();
    Due.fill(x, 0, 1, 1, 2, 3, 4, 5, 6, 7, 8, 9, 10);
    Due.is("onwards", x.copy(0, 0, 0, 2, 8), 8);
    int[] onwards = {1, 2, 1, 2, 3, 4, 5, 6, 7, 8};
    for (int k = 0; k < 10; k++) {
      Due.is("item " + k, item(x, 0, k, 1), onwards[k]);
    }
    Due.is("backwards", x.copy(0, 4, 0, 3, 6), 6);
    int[] backwards = {1, 2, 1, 3, 4, 5, 6, 7, 8, 8};
    for (int k = 0; k < 10; k++) {
      Due.is("item " + k, item(x, 0, k, 1), backwards[k]);
    }
    Due.fill(x, 1, 1, 11, 12, 13);
    Due.is("to another", x.copy(1, 1, 0, 8, 2), 2);
    Due.is("first that came", item(x, 0, 8, 1), 12);
    Due.is("last that came", item(x, 0, 9, 1), 13);
    Due.is("ahead of them", item(x, 0, 7, 1), 7);
    Due.is("what it came from", item(x, 1, 2, 1), 13);
    Due.is("all", x.copy(1, 0, 1, 0, 3), 3);
    Due.is("none", x.copy(1, 3, 0, 10, 0), 0);
  }

  private static void refusesCopies() {
    CloudHerd x = new CloudHerd();
    Due.fill(x, 0, 0, 1, 2, 3);
    Due.fill(x, 1, 0, 1, 2, 3, 4);
    x.row(2, 1, 3);
    Due.is("a 8", x.copy(8, 0, 0, 0, 1), BAD);
    Due.is("a -1", x.copy(-1, 0, 0, 0, 1), BAD);
    Due.is("b 8", x.copy(0, 0, 8, 0, 1), BAD);
    Due.is("b -1", x.copy(3, 0, -1, 0, 1), BAD);
    Due.is("a missing", x.copy(3, 0, 0, 0, 1), NULL);
    Due.is("b missing", x.copy(0, 9, 3, 0, -1), NULL);
    Due.is("two lanes", x.copy(0, 0, 2, 0, 1), STORE);
    Due.is("two lanes and no place", x.copy(2, 9, 0, 9, -1), STORE);
    Due.is("two lanes and none", x.copy(2, 0, 0, 0, 0), STORE);
    Due.is("i -1", x.copy(0, -1, 1, 0, 1), PLACE);
    Due.is("j -1", x.copy(0, 0, 1, -1, 1), PLACE);
    Due.is("n -1", x.copy(0, 1, 1, 1, -1), PLACE);
    Due.is("beyond a", x.copy(0, 0, 1, 0, 4), PLACE);
    Due.is("beyond b", x.copy(1, 0, 0, 0, 4), PLACE);
    Due.is("i behind the end", x.copy(0, 4, 1, 0, 0), PLACE);
    Due.is("j behind the end", x.copy(0, 0, 1, 5, 0), PLACE);
    Due.is("i so large that a sum turns over", x.copy(0, Integer.MAX_VALUE, 1, 0, 2), PLACE);
    Due.is("n so large that a sum turns over", x.copy(0, 2, 1, 2, Integer.MAX_VALUE), PLACE);
    Due.is("least n", x.copy(0, 0, 1, 0, Integer.MIN_VALUE), PLACE);
    Due.is("nothing came", item(x, 1, 0, 0), 1);
  }

  private static void dropsRows() {
    CloudHerd x = new CloudHerd();
    x.row(3, 2, 17);
    Due.is("drop", x.drop(3), 17);
    Due.is("drop again", x.drop(3), NULL);
    Due.is("count", x.count(0), 0);
    Due.is("set", x.set(3, 0, 1), NULL);
    x.row(3, 2, 0);
    Due.is("an empty row is there", x.count(0), 1);
    Due.is("drop it", x.drop(3), 0);
    Due.is("row 8", x.drop(8), BAD);
    Due.is("row -1", x.drop(-1), BAD);
  }

  private static void keepsStatus() {
    CloudHerd x = new CloudHerd();
    Due.is("at first", x.status(), 0);
    x.drop(0);
    Due.is("NULL", x.status(), 1);
    x.drop(9);
    Due.is("BAD leaves it", x.status(), 1);
    x.count(0);
    x.feed(65);
    x.herd();
    Due.is("calls without a row leave it", x.status(), 1);
    x.row(0, 0, 1);
    Due.is("none", x.status(), 0);
    x.set(0, 1, 1);
    Due.is("PLACE", x.status(), 2);
    x.kite(0, 0, 1, 0);
    Due.is("STATE leaves it", x.status(), 2);
    x.set(0, 0, 1);
    Due.is("set", x.status(), 0);
    x.row(1, 1, -3);
    Due.is("SIZE", x.status(), 4);
    x.row(1, 1, 1);
    x.copy(0, 0, 1, 0, 1);
    Due.is("STORE", x.status(), 5);
    x.copy(0, 0, 0, 0, 1);
    Due.is("copy", x.status(), 0);
    x.copy(0, 0, 0, 0, 2);
    Due.is("PLACE of a copy", x.status(), 2);
    x.drop(0);
    Due.is("drop", x.status(), 0);
  }
}

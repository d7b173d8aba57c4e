/** Promises 30 to 35 and 37, and part 4: each sentence that names an edge, alone. */
public final class EdgesAskedTest {
  private static final int NONE = Edges.NONE, BAD = Edges.BAD, STATE = Edges.STATE;
  private static final int FULL = Edges.FULL, KIND = Edges.KIND;
  private static final String CALM = Edges.CALM;
  private static final String FIVE = CALM + "a31,20;p30,19;b29,18;g28,17;y27,16;";

  public static void main(String[] args) throws Exception {
    Edges.run(EdgesAskedTest.class, 30, 31, 32, 33, 34, 35, 37);
  }

  /** Cloud 1, a white one, is GONE over 1; the fog has 17 of 9 and 9. */
  private static CloudHerd withGone() {
    CloudHerd x = Due.told("k1,0;leooooo;uoooooo;g1,9;a0,9;");
    x.hours(1);
    return x;
  }

  // ---- promise 30

  // "An IMAGE (0, 1)"
  private static void p30_k() {
    Edges.takes("k", 0, 1, (x, v) -> x.image(v));
  }

  // "STATE: no HERD"; BAD is ahead of it
  private static void p30_noHerd() {
    Edges.refuses("0", new CloudHerd(), STATE, (x, v) -> x.image(0));
    Edges.refuses("1", new CloudHerd(), STATE, (x, v) -> x.image(1));
    Edges.refuses("2", new CloudHerd(), BAD, (x, v) -> x.image(2));
    Edges.refuses("-1", new CloudHerd(), BAD, (x, v) -> x.image(-1));
  }

  // what is refused keeps nothing
  private static void p30_refusedKeepsNothing() {
    CloudHerd x = new CloudHerd();
    x.image(0);
    x.image(2);
    Due.tell(x, CALM);
    Due.is("restore", x.restore(0), STATE);
    x.image(2);
    x.image(-1);
    Due.is("restore", x.restore(0), STATE);
    Due.is("restore", x.restore(1), STATE);
  }

  // the two are apart
  private static void p30_twoApart() {
    CloudHerd x = Due.told(CALM + "a0,9;");
    Due.is("image", x.image(0), 1);
    x.hours(5);
    Due.is("image", x.image(1), 1);
    x.hours(5);
    x.restore(0);
    Due.is("hour", x.count(3), 0);
    x.restore(1);
    Due.is("hour", x.count(3), 5);
  }

  // a later one in place of an earlier one
  private static void p30_inPlace() {
    CloudHerd x = Due.told(CALM + "a0,9;");
    x.image(0);
    x.hours(5);
    x.image(0);
    x.hours(5);
    x.restore(0);
    Due.is("hour", x.count(3), 5);
  }

  // of a HERD without a CLOUD, too
  private static void p30_noCloud() {
    CloudHerd x = Due.told(CALM);
    Due.is("image", x.image(0), 1);
    Due.tell(x, FIVE);
    Due.is("restore", x.restore(0), 1);
    Due.is("clouds", x.count(1), 0);
    Due.is("a cloud", x.cloud(0, 0), BAD);
  }

  // it is no ACT, and leaves ACTS as they are
  private static void p30_noAct() {
    CloudHerd x = Due.told(CALM + "a0,9;");
    x.hours(2);
    x.image(0);
    Due.is("acts", x.count(7), 2);
    Due.is("undo", x.undo(), 1);
  }

  // ---- promise 31

  // BAD
  private static void p31_k() {
    Edges.takes("k", 0, 1, (x, v) -> x.restore(v));
  }

  // "STATE: none was kept"; BAD is ahead of it
  private static void p31_noneKept() {
    for (int k = 0; k <= 1; k++) {
      CloudHerd x = Edges.withRow(FIVE);
      x.hours(3);
      x.image(k);
      x.hours(3);
      int other = 1 - k;
      Edges.refuses("the other", x, STATE, (y, v) -> y.restore(other));
      Due.is("the one", x.restore(k), 1);
    }
    Edges.refuses("no herd", new CloudHerd(), STATE, (x, v) -> x.restore(0));
    Edges.refuses("bad", new CloudHerd(), BAD, (x, v) -> x.restore(2));
    Edges.refuses("bad", new CloudHerd(), BAD, (x, v) -> x.restore(-1));
  }

  // "no ACT can be undone then": none of before, none of when it was kept
  private static void p31_noAct() {
    CloudHerd x = Due.told(CALM + "a0,9;");
    x.hours(3);
    x.image(0);
    x.hours(3);
    x.restore(0);
    Due.is("acts", x.count(7), 0);
    Due.is("undo", x.undo(), STATE);
    Due.is("hour", x.count(3), 3);
    x.hours(1);
    Due.is("a new act", x.undo(), 0);
    Due.is("hour", x.count(3), 3);
  }

  // 24 ACTS can be kept behind it again
  private static void p31_twentyFourAgain() {
    CloudHerd x = Due.told(CALM + "a0,9;");
    x.hours(20);
    x.image(0);
    x.restore(0);
    x.hours(24);
    Due.is("24", x.count(7), 24);
    for (int k = 0; k < 24; k++) {
      x.undo();
    }
    Due.is("hour", x.count(3), 20);
    Due.is("no more", x.undo(), STATE);
  }

  // "as an IMAGE kept it": all of the HERD
  private static void p31_asItWasKept() {
    CloudHerd x = Due.told("k5,3;leeeeee;uwwwwww;f1;h9;m17;a0,9;b8,9;p16,9;g1,9;");
    x.hours(1);
    x.rains(0, 0);
    x.lift(1, 1);
    Due.is("one is gone", x.count(6), 3);
    x.image(1);
    CloudHerd same = Due.told("k5,3;leeeeee;uwwwwww;f1;h9;m17;a0,9;b8,9;p16,9;g1,9;");
    same.hours(1);
    same.rains(0, 0);
    same.lift(1, 1);
    same.image(0);
    same.restore(0);
    Due.tell(x, FIVE);
    Due.is("restore", x.restore(1), 1);
    Due.same("all", Due.seen(x), Due.seen(same));
  }

  // what comes later does not change an image; it can be had again
  private static void p31_again() {
    CloudHerd x = Due.told(CALM + "f0;a0,9;");
    x.image(0);
    for (int k = 0; k < 3; k++) {
      x.hours(4);
      x.lift(0, 1);
      x.rains(0, 0);
      Due.is("restore", x.restore(0), 1);
      Due.is("hour", x.count(3), 0);
      Due.is("earned", x.count(4), 0);
      Due.is("water", x.cloud(0, 2), 9);
      Due.is("height", x.cloud(0, 1), 0);
      Due.is("told", x.cloud(0, 4), 1);
    }
  }

  // rows, tape, fault, status, trace are not of the HERD
  private static void p31_theRestStays() {
    CloudHerd x = Edges.busy();
    x.restore(0);
    Due.is("rows", x.count(0), 8);
    Due.is("bytes", x.count(8), 1);
    Due.is("fault", x.fault(), 1);
    Due.is("status", x.status(), 2);
    Due.is("trace", x.trace(0), 12);
  }

  // HOURS go on from what was kept: 999 at most
  private static void p31_hoursGoOn() {
    CloudHerd x = Due.told(CALM);
    for (int k = 0; k < 41; k++) {
      x.hours(24);
    }
    x.hours(15);
    x.image(0);
    Due.tell(x, CALM);
    Due.is("a new herd", x.hours(1), 0);
    x.restore(0);
    Due.is("999", x.hours(1), FULL);
  }

  // ---- promise 32

  // BAD: there is no such CLOUD
  private static void p32_cloud() {
    Edges.takesClouds((x, v) -> x.kind(v));
  }

  // "as told (1 to 5)"
  private static void p32_asTold() {
    CloudHerd x = Due.told(FIVE);
    for (int k = 0; k < 5; k++) {
      Due.is("kind " + k, x.kind(k), k + 1);
    }
  }

  // of one that is GONE, too
  private static void p32_gone() {
    Due.is("white", withGone().kind(1), 1);
    Due.is("fog", withGone().kind(0), 4);
  }

  // ---- promise 33

  // BAD: there is no such CLOUD
  private static void p33_cloud() {
    Edges.takesClouds((x, v) -> x.as(v, 0));
  }

  // "a KIND (0 .. 5)"
  private static void p33_kind() {
    Edges.takes("kind", 0, 5, (x, v) -> x.as(0, v));
  }

  // "KIND: it is no such one": each CLOUD as each KIND
  private static void p33_each() {
    String[] such = {"01", "012", "013", "04", "045"};
    for (int one = 0; one < 5; one++) {
      for (int kind = 0; kind <= 5; kind++) {
        CloudHerd x = Due.told(FIVE);
        boolean is = such[one].indexOf('0' + kind) >= 0;
        Due.is("cloud " + one + " as " + kind, x.as(one, kind), is ? one : KIND);
        Due.is("status", x.status(), is ? 0 : 3);
      }
    }
  }

  // "KIND" changes nothing but status; BAD not even that, and is ahead of it
  private static void p33_order() {
    Edges.finds("a white one as a fog", Edges.busy(), KIND, (x, v) -> x.as(0, 4));
    CloudHerd x = Due.told(FIVE);
    x.as(0, 2);
    Due.is("cloud 5", x.as(5, 5), BAD);
    Due.is("kind 6", x.as(0, 6), BAD);
    Due.is("status", x.status(), 3);
    Due.is("as a cloud", x.as(0, 0), 0);
    Due.is("status", x.status(), 0);
  }

  // of one that is GONE, too
  private static void p33_gone() {
    Due.is("as a white one", withGone().as(1, 1), 1);
    Due.is("as a sheep", withGone().as(1, 2), KIND);
  }

  // ---- promise 34

  // BAD: there is no such CLOUD
  private static void p34_cloud() {
    Edges.takesClouds((x, v) -> x.ask(v, 0));
  }

  // "An ASK (0, 1)"
  private static void p34_what() {
    Edges.takes("what", 0, 1, (x, v) -> x.ask(0, v));
  }

  private static void asked(CloudHerd x, int one, int what, int due, int... trace) {
    Due.is("ask " + one + " " + what, x.ask(one, what), due);
    for (int k = 0; k < trace.length; k++) {
      Due.is("trace " + k + " of ask " + one + " " + what, x.trace(k), trace[k]);
    }
    for (int k = trace.length; k <= 16; k++) {
      Due.is("trace " + k + " of ask " + one + " " + what, x.trace(k), NONE);
    }
  }

  // SIZE of a white one: 11, with 10, and MARK: 21, with 20
  private static void p34_sizeOfWhite() {
    asked(Due.told(FIVE), 0, 0, 20 + (0 + 31), 11, 10, 21, 20);
  }

  // SIZE of a sheep: 12, with 11; its MARK is 24's
  private static void p34_sizeOfSheep() {
    asked(Due.told(FIVE), 1, 0, -(19 + 2 * (1 + 30)), 12, 11, 10, 24, 21, 20);
  }

  // SIZE of a black one: none is told, 11 is the nearest; its MARK is 22's
  private static void p34_sizeOfBlack() {
    asked(Due.told(FIVE), 2, 0, 18 + (2 + 29 - 1000), 11, 10, 22, 21, 20);
  }

  // SIZE of a fog: 13, with 10
  private static void p34_sizeOfFog() {
    asked(Due.told(FIVE), 3, 0, 17 - 100, 13, 10);
  }

  // SIZE of a stray: 14, with 13
  private static void p34_sizeOfStray() {
    asked(Due.told(FIVE), 4, 0, 2 * (16 - 100), 14, 13, 10);
  }

  // MARK of a white one: 21, with 20
  private static void p34_markOfWhite() {
    asked(Due.told(FIVE), 0, 1, 0 + 31, 21, 20);
  }

  // MARK of a sheep: 24, with 21
  private static void p34_markOfSheep() {
    asked(Due.told(FIVE), 1, 1, 2 * (1 + 30), 24, 21, 20);
  }

  // MARK of a black one: 22, with 21
  private static void p34_markOfBlack() {
    asked(Due.told(FIVE), 2, 1, 2 + 29 - 1000, 22, 21, 20);
  }

  // MARK of a fog: 23, with 20, and SIZE: 13
  private static void p34_markOfFog() {
    asked(Due.told(FIVE), 3, 1, 3 - (17 - 100), 23, 20, 13, 10);
  }

  // MARK of a stray: none is told, 23 is the nearest; its SIZE is 14's
  private static void p34_markOfStray() {
    asked(Due.told(FIVE), 4, 1, 4 - 2 * (16 - 100), 23, 20, 14, 13, 10);
  }

  // WATER 0, CELL 0, the number 0
  private static void p34_least() {
    asked(Due.told(CALM + "a0,0;"), 0, 0, 0, 11, 10, 21, 20);
    asked(Due.told(CALM + "p0,0;"), 0, 0, 0, 12, 11, 10, 24, 21, 20);
    asked(Due.told(CALM + "b0,0;"), 0, 1, -1000, 22, 21, 20);
    asked(Due.told(CALM + "g0,0;"), 0, 1, 100, 23, 20, 13, 10);
    asked(Due.told(CALM + "y0,0;"), 0, 0, -200, 14, 13, 10);
  }

  // of one that is GONE, too: WATER 0
  private static void p34_gone() {
    asked(withGone(), 1, 0, 0 + (1 + 1), 11, 10, 21, 20);
    asked(withGone(), 0, 0, 17 - 100, 13, 10);
  }

  // "THE TRACE is empty ahead of it": nothing of a longer one is left
  private static void p34_traceEmptyAhead() {
    CloudHerd x = Due.told(FIVE);
    x.ask(1, 0);
    asked(x, 0, 1, 31, 21, 20);
    asked(x, 0, 1, 31, 21, 20);
  }

  // "What is refused .. changes nothing": THE TRACE stays
  private static void p34_refusedLeavesTheTrace() {
    CloudHerd x = Due.told(FIVE);
    x.ask(0, 1);
    for (int bad : new int[] {-1, 5}) {
      Due.is("cloud", x.ask(bad, 0), BAD);
    }
    for (int bad : new int[] {-1, 2}) {
      Due.is("what", x.ask(0, bad), BAD);
    }
    Due.is("trace 0", x.trace(0), 21);
    Due.is("trace 1", x.trace(1), 20);
    Due.is("trace 2", x.trace(2), NONE);
  }

  // an ask is no ACT and changes nothing of the HERD
  private static void p34_changesNothing() {
    CloudHerd x = Due.told(FIVE);
    String before = Due.seen(x);
    for (int one = 0; one < 5; one++) {
      x.ask(one, 0);
      x.ask(one, 1);
    }
    Due.same("all", Due.seen(x), before);
  }

  // ---- promise 35

  // "NONE": before an ask
  private static void p35_beforeAnAsk() {
    CloudHerd x = Due.told(FIVE);
    for (int i : new int[] {Edges.LEAST, -1, 0, 1, 15, 16, Edges.MOST}) {
      Due.is("trace " + i, x.trace(i), NONE);
    }
  }

  // "Number i of THE TRACE; NONE": the first, the last, and beyond on both sides
  private static void p35_firstAndLast() {
    CloudHerd x = Due.told(FIVE);
    x.ask(1, 0);
    Due.is("-1", x.trace(-1), NONE);
    Due.is("0", x.trace(0), 12);
    Due.is("5", x.trace(5), 20);
    Due.is("6", x.trace(6), NONE);
    for (int i : new int[] {Edges.LEAST, 7, 15, 16, 17, Edges.MOST}) {
      Due.is("trace " + i, x.trace(i), NONE);
    }
  }

  // "(the first 16)": no ask leaves more than six
  private static void p35_sixAtMost() {
    for (int one = 0; one < 5; one++) {
      for (int what = 0; what <= 1; what++) {
        CloudHerd x = Due.told(FIVE);
        x.ask(one, what);
        Due.is("number 6 of ask " + one + " " + what, x.trace(6), NONE);
      }
    }
  }

  // it stays until the next ask: by acts, a new herd, an image, too
  private static void p35_stays() {
    CloudHerd x = Due.told(FIVE);
    x.ask(3, 0);
    x.hours(1);
    x.undo();
    x.image(0);
    x.restore(0);
    Due.tell(x, CALM);
    Due.is("trace 0", x.trace(0), 13);
    Due.is("trace 1", x.trace(1), 10);
    Due.is("trace 2", x.trace(2), NONE);
  }

  // ---- promise 37

  /** Five clouds, a row of 12 whose items are 5; the finding is 3, that no call with a row has. */
  private static CloudHerd withFinding() {
    CloudHerd x = Due.told(FIVE);
    x.row(0, 0, 12);
    for (int k = 0; k < 12; k++) {
      x.set(0, k, 5);
    }
    x.as(0, 5);
    return x;
  }

  // "0: .. or there was none"
  private static void p37_atFirst() {
    Due.is("at first", new CloudHerd().status(), 0);
    Due.is("behind a herd", Due.told(FIVE).status(), 0);
  }

  // "the number of its FINDING": 1 to 5, and 3 of as()
  private static void p37_numbers() {
    int[] answers = {-1000011, -1000012, -1000013, -1000014, -1000015};
    Edges.Call[] calls = {(x, v) -> x.drop(7), (x, v) -> x.set(0, 12, 1), (x, v) -> x.as(0, 3),
      (x, v) -> x.row(0, 0, -1), (x, v) -> x.copy(0, 0, 1, 0, 1)};
    for (int k = 0; k < 5; k++) {
      CloudHerd x = Due.told(FIVE);
      x.row(0, 0, 12);
      x.row(1, 1, 12);
      Due.is("finding " + (k + 1), calls[k].on(x, 0), answers[k]);
      Due.is("status " + (k + 1), x.status(), k + 1);
      Due.is("status again", x.status(), k + 1);
    }
  }

  // "0: it had none": of each call with a ROW, and of as()
  private static void p37_hadNone() {
    Edges.Call[] calls = {(x, v) -> x.row(1, 0, 0), (x, v) -> x.set(0, 0, 5),
      (x, v) -> x.copy(0, 0, 0, 0, 0), (x, v) -> x.drop(0), (x, v) -> x.dew(0, 0, 1),
      (x, v) -> x.lost(0, 0, 0, 0, 1, 0), (x, v) -> x.kite(0, 0, 1, 0),
      (x, v) -> x.guards(0, 0), (x, v) -> x.guardsValue(0, 0, 0), (x, v) -> x.as(0, 0)};
    for (int k = 0; k < calls.length; k++) {
      CloudHerd x = withFinding();
      Due.is("ahead of call " + k, x.status(), 3);
      calls[k].on(x, 0);
      Due.is("status of call " + k, x.status(), 0);
    }
  }

  // lost(), kite() that answer NONE have none, either
  private static void p37_noneIsNoFinding() {
    CloudHerd x = withFinding();
    x.set(0, 0, 99);
    x.as(0, 5);
    Due.is("lost", x.lost(0, 0, 0, 0, 1, 1), NONE);
    Due.is("status", x.status(), 0);
    x.as(0, 5);
    Due.is("kite", x.kite(0, 0, 1, 1), NONE);
    Due.is("status", x.status(), 0);
  }

  // "the latest call .. that was not BAD": each call with a ROW, and as()
  private static void p37_badLeavesIt() {
    Edges.Call[] calls = {(x, v) -> x.row(8, 0, 0), (x, v) -> x.row(0, 0, 41),
      (x, v) -> x.set(8, 0, 5), (x, v) -> x.copy(0, 0, 8, 0, 0), (x, v) -> x.drop(8),
      (x, v) -> x.dew(0, 0, 0), (x, v) -> x.lost(0, 0, 0, 0, 0, 0), (x, v) -> x.kite(0, 0, 0, 0),
      (x, v) -> x.guards(8, 0), (x, v) -> x.guardsValue(0, 0, 2), (x, v) -> x.as(0, 6),
      (x, v) -> x.as(5, 0)};
    for (int k = 0; k < calls.length; k++) {
      CloudHerd x = withFinding();
      Due.is("call " + k, calls[k].on(x, 0), BAD);
      Due.is("status of call " + k, x.status(), 3);
    }
  }

  // BAD of an ITEM, behind NULL and PLACE, leaves it, too
  private static void p37_badItemLeavesIt() {
    CloudHerd x = withFinding();
    x.set(0, 4, 21);
    x.as(0, 5);
    Due.is("guards", x.guards(0, 0), BAD);
    Due.is("status", x.status(), 3);
    Due.is("guardsValue", x.guardsValue(0, 0, 0), BAD);
    Due.is("status", x.status(), 3);
  }

  // "not .. STATE": dew() and kite() without a HERD
  private static void p37_stateLeavesIt() {
    CloudHerd x = new CloudHerd();
    x.row(0, 0, 12);
    x.row(0, 0, -1);
    Due.is("dew", x.dew(0, 0, 1), STATE);
    Due.is("status", x.status(), 4);
    Due.is("kite", x.kite(7, 0, 1, 0), STATE);
    Due.is("status", x.status(), 4);
  }

  // calls without a ROW leave it, whatever they answer
  private static void p37_othersLeaveIt() {
    CloudHerd x = withFinding();
    x.feed('k');
    x.herd();
    x.fault();
    x.undo();
    x.hours(1);
    x.hours(0);
    x.lift(0, 1);
    x.lift(0, 1);
    x.rains(0, 0);
    x.cloud(0, 0);
    x.cell(0, 0);
    x.wind(0, 0);
    x.ahead(0, 1, 0);
    x.earned(1);
    x.knot(1, 0);
    x.wetHay(1, 0);
    x.soon(0, 0);
    x.heights(0, 1, 0);
    x.shade(0, 1);
    x.tuesday(0, 1, 0, 0);
    x.dues(1);
    x.image(0);
    x.restore(0);
    x.restore(1);
    x.kind(0);
    x.ask(0, 0);
    x.trace(0);
    x.count(0);
    x.undo();
    Due.is("status", x.status(), 3);
    Due.tell(x, CALM);
    Due.is("a herd that is read", x.status(), 3);
  }

  // FULL is of none of them: feed() leaves it
  private static void p37_fullLeavesIt() {
    CloudHerd x = withFinding();
    for (int k = 0; k < 120; k++) {
      x.feed('k');
    }
    Due.is("full", x.feed('k'), FULL);
    Due.is("status", x.status(), 3);
  }
}

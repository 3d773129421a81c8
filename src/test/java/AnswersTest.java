/** What the promises 1 to 26 answer at their edges: one method for each promise, a test for each of its sentences. */
public final class AnswersTest {
  private static final int NONE = HeapMover.NONE;
  private static final int UNKNOWN = HeapMover.UNKNOWN;
  private static final int OUTSIDE = HeapMover.OUTSIDE;
  private static final int NOT = HeapMover.NOT;
  private static final int MIN = Integer.MIN_VALUE;

  private static final Check CHECK = new Check("AnswersTest");

  public static void main(String[] args) {
    promise1New();
    promise2Place();
    promise3Road();
    promise4Heap();
    promise5Set();
    promise6Gate();
    promise7Undo();
    promise8Apart();
    promise9Next();
    promise10Amount();
    promise11Sum();
    promise12Least();
    promise13Plan();
    promise14Alone();
    promise15Height();
    promise16Load();
    promise17Far();
    promise18Shown();
    promise19Some();
    promise20Gated();
    promise21Draft();
    promise22Clear();
    promise23Copy();
    promise24Judge();
    promise25Beside();
    promise26Count();
    CHECK.end();
  }

  private static void due(String call, long got, long want) {
    CHECK.due(call, got, want);
  }

  private static void promise1New() {
    CHECK.sentence("Promise 1: No PLACES, ROADS, HEAPS");
    HeapMover x = new HeapMover();
    due("count(0)", x.count(0), 0);
    due("count(1)", x.count(1), 0);
    due("count(2)", x.count(2), 0);
    due("count(3)", x.count(3), 0);
    due("apart(0, 0)", x.apart(0, 0), UNKNOWN);
    due("sum(0)", x.sum(0), UNKNOWN);
    due("place(), the first", x.place(), 0);
    due("heap(), the first", x.heap(), 0);
    x.place();
    due("road(), the first", x.road(1, 0, 1), 0);
    CHECK.sentence("Promise 1: an empty DRAFT");
    HeapMover y = new HeapMover();
    due("clear()", y.clear(), 0);
    y.place();
    due("draft(0, 0, 1)", y.draft(0, 0, 1), 0);
    CHECK.sentence("Promise 1: nothing to take back");
    HeapMover z = new HeapMover();
    due("count(4)", z.count(4), 0);
    due("undo()", z.undo(), NOT);
    due("count(4) after it", z.count(4), 0);
    CHECK.sentence("Promise 1: A new object", "whatever others hold");
    due("count(0) of one more", new HeapMover().count(0), 0);
    due("count(4) of one more", new HeapMover().count(4), 0);
  }

  private static void promise2Place() {
    CHECK.sentence("Promise 2: A PLACE: its number");
    HeapMover x = Worlds.places(9);
    due("place(), the last", x.place(), 9);
    x.undo();
    x.undo();
    due("place(), as one went", x.place(), 8);
    due("place(), as one went", x.place(), 9);
    due("count(0)", x.count(0), 10);
  }

  private static void promise3Road() {
    CHECK.sentence("Promise 3: A ROAD: its number");
    HeapMover x = Worlds.places(2);
    for (int road = 0; road < 29; road++) {
      x.road(0, 1, 1000);
    }
    due("road(), the last", x.road(1, 0, 1), 29);
    x.undo();
    x.undo();
    due("road(), as one went", x.road(0, 1, 2), 28);
    due("apart(0, 1)", x.apart(0, 1), 2);
  }

  private static void promise4Heap() {
    CHECK.sentence("Promise 4: A HEAP: its number");
    HeapMover x = Worlds.heaps(7);
    due("heap(), the last", x.heap(), 7);
    x.undo();
    x.undo();
    due("heap(), as one went", x.heap(), 6);
    due("sum(7)", x.sum(7), UNKNOWN);
  }

  private static void promise5Set() {
    CHECK.sentence("Promise 5: An AMOUNT of a HEAP: that which it was");
    HeapMover x = Worlds.places(10);
    for (int heap = 0; heap < 8; heap++) {
      x.heap();
    }
    due("set(7, 9, 1000), the last of both", x.set(7, 9, 1000), 0);
    due("set(7, 9, 0)", x.set(7, 9, 0), 1000);
    due("set(7, 9, 1)", x.set(7, 9, 1), 0);
    due("set(7, 9, 1), the same", x.set(7, 9, 1), 1);
    x.set(7, 9, 5);
    x.undo();
    due("set(7, 9, 2) behind undo()", x.set(7, 9, 2), 1);
    due("set(9, 7, 2), the other way round", x.set(9, 7, 2), UNKNOWN);
  }

  private static void promise6Gate() {
    String words = "Promise 6: A PLACE is a GATE with a BOUND, or (NONE) none: the BOUND that it had (NONE)";
    CHECK.sentence(words, "a BOUND");
    HeapMover x = Worlds.places(10);
    due("gate(9, 100000)", x.gate(9, 100000), NONE);
    due("gate(9, 0)", x.gate(9, 0), 100000);
    due("gate(9, 1)", x.gate(9, 1), 0);
    due("gate(9, 1), the same", x.gate(9, 1), 1);
    CHECK.sentence(words, "none");
    HeapMover y = Worlds.line(2, 1);
    Worlds.fill(y, 0, 1, 0);
    Worlds.fill(y, 1, 0, 1);
    due("gate(0, NONE), it was none", y.gate(0, NONE), NONE);
    due("count(3)", y.count(3), 0);
    y.gate(0, 0);
    due("gated, shut", y.gated(0, 1), NONE);
    due("gate(0, NONE)", y.gate(0, NONE), 0);
    due("gated, open", y.gated(0, 1), 1);
    due("count(3)", y.count(3), 0);
    due("gate(0, 7)", y.gate(0, 7), NONE);
  }

  private static void promise7Undo() {
    CHECK.sentence("Promise 7: how many can be taken back yet");
    HeapMover x = Worlds.places(2);
    due("undo()", x.undo(), 1);
    due("undo(), the last one", x.undo(), 0);
    due("count(4)", x.count(4), 0);
    HeapMover y = Worlds.places(1);
    for (int turn = 0; turn < 40; turn++) {
      y.gate(0, turn);
    }
    due("undo() of more than can be kept", y.undo(), 29);
    y.gate(0, 99);
    y.gate(0, 98);
    due("undo(), full again", y.undo(), 29);
    CHECK.sentence("Promise 7: NOT: none");
    due("undo() of nothing left", x.undo(), NOT);
    due("undo() of nothing left again", x.undo(), NOT);
    x.place();
    due("undo() of one that came since", x.undo(), 0);
  }

  private static void promise8Apart() {
    CHECK.sentence("Promise 8: APART");
    HeapMover x = Worlds.line(10, 1000);
    due("apart(0, 9)", x.apart(0, 9), 9000);
    due("apart(9, 9)", x.apart(9, 9), 0);
    x.road(9, 0, 1);
    due("apart(0, 9) by a road more", x.apart(0, 9), 1);
    due("apart(1, 8), around", x.apart(1, 8), 2001);
    x.undo();
    due("apart(1, 8), the road went", x.apart(1, 8), 7000);
    CHECK.sentence("Promise 8: NONE: there is no way");
    HeapMover y = Worlds.net(4, new int[] {0, 1, 1}, new int[] {2, 3, 1});
    due("apart(0, 3)", y.apart(0, 3), NONE);
    due("apart(2, 1)", y.apart(2, 1), NONE);
    due("apart(2, 3)", y.apart(2, 3), 1);
    due("apart(2, 2)", y.apart(2, 2), 0);
  }

  private static void promise9Next() {
    CHECK.sentence("Promise 9: The PLACE behind u on THE WAY to v");
    HeapMover x = Worlds.line(10, 1000);
    due("next(0, 9)", x.next(0, 9), 1);
    due("next(9, 0)", x.next(9, 0), 8);
    due("next(8, 9)", x.next(8, 9), 9);
    CHECK.sentence("Promise 9: NONE: there is no way");
    HeapMover y = Worlds.net(4, new int[] {0, 1, 1}, new int[] {2, 3, 1});
    due("next(0, 3)", y.next(0, 3), NONE);
    due("next(3, 0)", y.next(3, 0), NONE);
    due("next(2, 3), there is one", y.next(2, 3), 3);
    CHECK.sentence("Promise 9: or they are one");
    for (int v = 0; v < 4; v++) {
      due("next(" + v + ", " + v + ")", y.next(v, v), NONE);
    }
  }

  private static void promise10Amount() {
    CHECK.sentence("Promise 10: An AMOUNT");
    HeapMover x = Worlds.places(10);
    for (int heap = 0; heap < 8; heap++) {
      x.heap();
    }
    x.set(7, 9, 1000);
    due("amount(7, 9)", x.amount(7, 9), 1000);
    due("amount(7, 8)", x.amount(7, 8), 0);
    due("amount(6, 9)", x.amount(6, 9), 0);
    due("amount(9, 7), the other way round", x.amount(9, 7), UNKNOWN);
  }

  private static void promise11Sum() {
    CHECK.sentence("Promise 11: SUM of a HEAP");
    HeapMover x = Worlds.heaps(8);
    due("sum(7) without places", x.sum(7), 0);
    for (int v = 0; v < 10; v++) {
      x.place();
      x.set(7, v, 1000);
    }
    due("sum(7)", x.sum(7), 10000);
    due("sum(6)", x.sum(6), 0);
    x.undo();
    x.undo();
    due("sum(7), the last place went", x.sum(7), 9000);
  }

  private static void promise12Least() {
    CHECK.sentence("Promise 12: LEAST");
    due("least without places", Worlds.heaps(2).least(0, 1), 0);
    HeapMover x = Worlds.line(10, 1000);
    due("least of empty heaps", x.least(0, 1), 0);
    x.set(0, 0, 1000);
    x.set(1, 9, 1000);
    due("least by the longest way", x.least(0, 1), 9000000);
    due("least back", x.least(1, 0), 9000000);
    due("least of one heap", x.least(0, 0), 0);
    x.road(0, 9, 1);
    due("least by a road more", x.least(0, 1), 1000);
    x.undo();
    due("least, the road went", x.least(0, 1), 9000000);
  }

  private static void promise13Plan() {
    CHECK.sentence("Promise 13: G(u, v) of THE PLAN");
    HeapMover x = Worlds.line(10, 1000);
    due("plan of empty heaps", x.plan(0, 1, 9, 0), 0);
    x.set(0, 0, 1000);
    x.set(1, 9, 1000);
    due("plan(0, 1, 0, 9)", x.plan(0, 1, 0, 9), 1000);
    due("plan(0, 1, 9, 0), the other way", x.plan(0, 1, 9, 0), 0);
    due("plan(1, 0, 9, 0)", x.plan(1, 0, 9, 0), 1000);
    due("plan(1, 0, 0, 9)", x.plan(1, 0, 0, 9), 0);
    due("plan(0, 0, 0, 0)", x.plan(0, 0, 0, 0), 1000);
    x.set(1, 9, 999);
    x.set(1, 0, 1);
    due("plan(0, 1, 0, 0), one stays now", x.plan(0, 1, 0, 0), 1);
    x.undo();
    x.undo();
    due("plan(0, 1, 0, 0), taken back", x.plan(0, 1, 0, 0), 0);
    x.heap();
    x.set(2, 0, 1000);
    due("plan(0, 2, 0, 0), to another heap", x.plan(0, 2, 0, 0), 1000);
    due("plan(2, 1, 0, 0), from another heap", x.plan(2, 1, 0, 0), 0);
    due("plan(0, 1, 0, 9), as before", x.plan(0, 1, 0, 9), 1000);
  }

  private static void promise14Alone() {
    CHECK.sentence("Promise 14: Whether THE PLAN is ALONE (1, 0)");
    due("alone without places", Worlds.heaps(2).alone(0, 1), 1);
    HeapMover x = Worlds.line(3, 1000);
    due("alone of empty heaps", x.alone(0, 1), 1);
    Worlds.fill(x, 0, 1000, 1, 0);
    Worlds.fill(x, 1, 0, 1, 1000);
    due("alone, one unit may change places", x.alone(0, 1), 0);
    due("alone back", x.alone(1, 0), 0);
    due("alone of one heap", x.alone(0, 0), 1);
    x.set(0, 1, 0);
    x.set(1, 1, 0);
    due("alone, nothing lies between", x.alone(0, 1), 1);
    x.undo();
    x.undo();
    due("alone, taken back", x.alone(0, 1), 0);
  }

  private static void promise15Height() {
    CHECK.sentence("Promise 15: H(v) of THE HEIGHTS");
    HeapMover x = Worlds.line(10, 1000);
    due("height, nothing is moved", x.height(0, 1, 9), 9000);
    x.set(0, 0, 1);
    x.set(1, 9, 1);
    due("height, the lowest", x.height(0, 1, 9), -9000);
    due("height back, the highest", x.height(1, 0, 9), 9000);
    due("height(0, 1, 0)", x.height(0, 1, 0), 0);
    x.undo();
    x.undo();
    due("height, taken back", x.height(0, 1, 9), 9000);
    CHECK.sentence("Promise 15: The least int: UNKNOWN, NOT");
    due("height(0, 1, 10)", x.height(0, 1, 10), MIN);
    due("height(0, 2, 0)", x.height(0, 2, 0), MIN);
    due("height of place 0 that is not", Worlds.heaps(2).height(0, 1, 0), MIN);
    x.set(0, 0, 1);
    due("height of other sums", x.height(0, 1, 0), MIN);
  }

  private static void promise16Load() {
    CHECK.sentence("Promise 16: LOAD");
    HeapMover x = Worlds.line(10, 1000);
    due("load of empty heaps", x.load(0, 1, 0, 1), 0);
    for (int v = 0; v < 5; v++) {
      x.set(0, v, 1000);
      x.set(1, 9 - v, 1000);
    }
    due("load, the greatest", x.load(0, 1, 4, 5), 5000);
    due("load, the first one", x.load(0, 1, 0, 1), 1000);
    due("load, the last one", x.load(0, 1, 8, 9), 1000);
    due("load against it", x.load(0, 1, 5, 4), 0);
    due("load back", x.load(1, 0, 5, 4), 5000);
    CHECK.sentence("Promise 16: (0 where there is no ROAD.)");
    due("load(0, 9)", x.load(0, 1, 0, 9), 0);
    due("load(4, 6)", x.load(0, 1, 4, 6), 0);
    due("load(4, 4)", x.load(0, 1, 4, 4), 0);
  }

  private static void promise17Far() {
    CHECK.sentence("Promise 17: FAR");
    due("far without places", Worlds.heaps(2).far(0, 1), 0);
    HeapMover x = Worlds.line(10, 1000);
    due("far of empty heaps", x.far(0, 1), 0);
    x.set(0, 9, 1000);
    x.set(1, 9, 999);
    x.set(1, 0, 1);
    due("far for one unit", x.far(0, 1), 9000);
    due("far back", x.far(1, 0), 9000);
    due("far of one heap", x.far(0, 0), 0);
    x.road(9, 0, 1);
    due("far by a road more", x.far(0, 1), 1);
    x.undo();
    due("far, the road went", x.far(0, 1), 9000);
    x.heap();
    x.set(2, 8, 1000);
    due("far from another heap", x.far(2, 1), 8000);
    due("far as before", x.far(0, 1), 9000);
    due("far to another heap", x.far(0, 2), 1000);
    due("far as before", x.far(0, 1), 9000);
  }

  private static void promise18Shown() {
    CHECK.sentence("Promise 18: Whether a PLACE is SHOWN (1, 0)");
    HeapMover x = Worlds.line(10, 1000);
    due("shown of empty heaps", x.shown(0, 1, 9), 0);
    x.set(0, 9, 1000);
    x.set(1, 9, 999);
    x.set(1, 0, 1);
    due("shown(0, 1, 9), one is too much there", x.shown(0, 1, 9), 1);
    due("shown(0, 1, 0)", x.shown(0, 1, 0), 0);
    due("shown(1, 0, 0), back", x.shown(1, 0, 0), 1);
    due("shown(1, 0, 9), back", x.shown(1, 0, 9), 0);
    x.set(1, 9, 1000);
    x.set(1, 0, 0);
    due("shown(0, 1, 9), all stays", x.shown(0, 1, 9), 0);
    x.undo();
    x.undo();
    due("shown(0, 1, 9), taken back", x.shown(0, 1, 9), 1);
    x.heap();
    x.set(2, 0, 1000);
    due("shown(2, 1, 0), from another heap", x.shown(2, 1, 0), 1);
    due("shown(0, 1, 9), as before", x.shown(0, 1, 9), 1);
    due("shown(0, 0, 9), to another heap", x.shown(0, 0, 9), 0);
    due("shown(0, 1, 9), as before", x.shown(0, 1, 9), 1);
  }

  private static void promise19Some() {
    CHECK.sentence("Promise 19: SOME m");
    due("some without places", Worlds.heaps(2).some(0, 1, 0), 0);
    HeapMover x = Worlds.line(10, 1000);
    for (int v = 0; v < 10; v++) {
      x.set(0, v, 1000);
    }
    x.set(1, 9, 1000);
    x.set(1, 0, 1000);
    due("some 2000, all wanted lie there", x.some(0, 1, 2000), 0);
    due("some 2001", x.some(0, 1, 2001), OUTSIDE);
    due("some 10000 of one heap", x.some(0, 0, 10000), 0);
    due("some 10001 of one heap", x.some(0, 0, 10001), OUTSIDE);
    x.set(0, 9, 999);
    due("some 1999", x.some(0, 1, 1999), 0);
    due("some 2000, one has to come", x.some(0, 1, 2000), 1000);
  }

  private static void promise20Gated() {
    CHECK.sentence("Promise 20: GATED");
    due("gated without places", Worlds.heaps(2).gated(0, 1), 0);
    HeapMover x = Worlds.line(10, 1000);
    x.set(0, 0, 1000);
    x.set(1, 9, 1000);
    for (int v = 0; v < 9; v++) {
      x.gate(v, 1000);
    }
    x.gate(9, 0);
    due("gated, each gate just lets all through", x.gated(0, 1), 9000000);
    CHECK.sentence("Promise 20: NONE: there is no such way");
    for (int v = 0; v < 9; v++) {
      x.gate(v, 999);
      due("gated, gate " + v + " holds one up", x.gated(0, 1), NONE);
      x.undo();
    }
    due("gated back, 9 is shut", x.gated(1, 0), NONE);
    due("gated, all gates as before", x.gated(0, 1), 9000000);
    x.undo();
    due("gated back, 9 is open", x.gated(1, 0), 9000000);
  }

  private static void promise21Draft() {
    CHECK.sentence("Promise 21: THE DRAFT's number for u, v: that which it was");
    HeapMover x = Worlds.places(10);
    due("draft(0, 9, 10000)", x.draft(0, 9, 10000), 0);
    due("draft(9, 0, 1), the other way", x.draft(9, 0, 1), 0);
    due("draft(0, 9, 0)", x.draft(0, 9, 0), 10000);
    due("draft(0, 9, 0) again", x.draft(0, 9, 0), 0);
    due("draft(9, 0, 1), the same", x.draft(9, 0, 1), 1);
    due("draft(9, 9, 2)", x.draft(9, 9, 2), 0);
    due("draft(9, 9, 2), the same", x.draft(9, 9, 2), 2);
  }

  private static void promise22Clear() {
    CHECK.sentence("Promise 22: All numbers of THE DRAFT are 0: how many were not");
    due("clear() without places", new HeapMover().clear(), 0);
    HeapMover x = Worlds.places(10);
    for (int u = 0; u < 10; u++) {
      for (int v = 0; v < 10; v++) {
        x.draft(u, v, 10000);
      }
    }
    x.draft(4, 4, 0);
    due("clear() of all but one", x.clear(), 99);
    due("clear() again", x.clear(), 0);
    for (int u = 0; u < 10; u++) {
      for (int v = 0; v < 10; v++) {
        due("draft(" + u + ", " + v + ", 0)", x.draft(u, v, 0), 0);
      }
    }
  }

  private static void promise23Copy() {
    CHECK.sentence("Promise 23: THE DRAFT becomes THE PLAN");
    HeapMover x = Worlds.line(3, 1);
    Worlds.fill(x, 0, 1000, 1, 0);
    Worlds.fill(x, 1, 0, 1, 1000);
    Worlds.draft(x, new int[] {9, 9, 9}, new int[] {9, 9, 9}, new int[] {9, 9, 9});
    x.copy(0, 1);
    int[][] want = {{0, 1, 999}, {0, 0, 1}, {0, 0, 0}};
    for (int u = 0; u < 3; u++) {
      for (int v = 0; v < 3; v++) {
        due("draft(" + u + ", " + v + ")", x.draft(u, v, want[u][v]), want[u][v]);
        due("plan(" + u + ", " + v + ")", x.plan(0, 1, u, v), want[u][v]);
      }
    }
    due("judge", x.judge(0, 1), 0);
    CHECK.sentence("Promise 23: how many of its numbers are not 0");
    due("copy(0, 1)", x.copy(0, 1), 3);
    due("copy(0, 0), all stays", x.copy(0, 0), 2);
    x.heap();
    due("copy(2, 2), an empty heap", x.copy(2, 2), 0);
    due("clear() behind it", x.clear(), 0);
    due("copy() without places", Worlds.heaps(2).copy(0, 1), 0);
    HeapMover y = Worlds.line(9, 1);
    for (int v = 0; v < 9; v++) {
      y.set(0, v, 1 + v);
    }
    y.place();
    y.road(9, 8, 1);
    y.set(0, 9, 1000);
    due("copy(0, 0) of ten places", y.copy(0, 0), 10);
    y.undo();
    y.undo();
    y.undo();
    due("copy(0, 0), one place went", y.copy(0, 0), 9);
    due("clear() behind it", y.clear(), 9);
  }

  private static void promise24Judge() {
    CHECK.sentence("Promise 24: JUDGED: 0 to 3");
    due("judge without places", Worlds.heaps(2).judge(0, 1), 0);
    HeapMover x = Worlds.line(10, 1000);
    due("judge of nothing for nothing", x.judge(0, 1), 0);
    x.draft(9, 9, 1);
    due("judge, one from the last place", x.judge(0, 1), 1);
    x.set(0, 9, 1);
    x.set(1, 0, 1);
    due("judge, one to the last place", x.judge(0, 1), 2);
    x.draft(9, 9, 0);
    x.draft(9, 0, 1);
    due("judge, as it is due", x.judge(0, 1), 0);
    x.set(0, 0, 1);
    x.set(1, 9, 1);
    x.draft(0, 9, 1);
    due("judge, both could stay", x.judge(0, 1), 3);
    due("beside()", x.beside(), 18000);
  }

  private static void promise25Beside() {
    CHECK.sentence("Promise 25: 0 without one");
    HeapMover x = Worlds.line(3, 5);
    due("beside() at first", x.beside(), 0);
    due("judge refused", x.judge(0, 2), UNKNOWN);
    due("beside() behind a refused one", x.beside(), 0);
    CHECK.sentence("Promise 25: What was told beside the latest judge()");
    x.draft(2, 2, 1);
    due("judge", x.judge(0, 1), 1);
    due("beside()", x.beside(), 2);
    due("beside() again", x.beside(), 2);
    x.draft(1, 1, 1);
    due("beside(), not judged since", x.beside(), 2);
    due("judge", x.judge(0, 1), 1);
    due("beside()", x.beside(), 1);
    CHECK.sentence("Promise 25: that was not refused");
    due("judge of no heap", x.judge(0, 2), UNKNOWN);
    due("beside()", x.beside(), 1);
    x.set(0, 0, 1);
    due("judge of other sums", x.judge(0, 1), NOT);
    due("beside()", x.beside(), 1);
    x.undo();
    x.place();
    due("judge, not joined", x.judge(0, 1), NOT);
    due("beside()", x.beside(), 1);
    x.undo();
    x.clear();
    due("beside() behind other calls", x.beside(), 1);
    due("judge, all is right", x.judge(0, 1), 0);
    due("beside()", x.beside(), 0);
  }

  private static void promise26Count() {
    HeapMover x = Worlds.places(10);
    CHECK.sentence("Promise 26: 0 PLACES");
    due("count(0)", x.count(0), 10);
    due("count(0) of a new one", new HeapMover().count(0), 0);
    CHECK.sentence("Promise 26: 1 ROADS");
    due("count(1)", x.count(1), 0);
    for (int road = 0; road < 30; road++) {
      x.road(0, 1 + road % 9, 5);
    }
    due("count(1), full", x.count(1), 30);
    CHECK.sentence("Promise 26: 2 HEAPS");
    for (int heap = 0; heap <= 8; heap++) {
      due("count(2)", x.count(2), heap);
      x.heap();
    }
    due("count(2), full", x.count(2), 8);
    CHECK.sentence("Promise 26: 3 GATES");
    for (int v = 0; v < 10; v++) {
      due("count(3)", x.count(3), v);
      x.gate(v, 0);
    }
    due("count(3), all of them", x.count(3), 10);
    x.gate(9, 100000);
    due("count(3), another bound", x.count(3), 10);
    x.gate(0, NONE);
    due("count(3), the first one is none", x.count(3), 9);
    CHECK.sentence("Promise 26: 4 what can be taken back");
    due("count(4), full", x.count(4), 30);
    x.undo();
    due("count(4)", x.count(4), 29);
    due("count(4) of a new one", new HeapMover().count(4), 0);
    CHECK.sentence("Promise 26: 5 whether all is JOINED (1, 0");
    due("count(5)", x.count(5), 1);
    due("count(5) of one place", Worlds.places(1).count(5), 1);
    due("count(5) of two places", Worlds.places(2).count(5), 0);
    CHECK.sentence("Promise 26: without PLACES 1");
    HeapMover y = new HeapMover();
    due("count(5)", y.count(5), 1);
    y.place();
    y.place();
    y.undo();
    y.undo();
    due("count(5), all places went", y.count(5), 1);
  }
}

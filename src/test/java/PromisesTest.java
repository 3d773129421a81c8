import java.util.ArrayList;
import java.util.Collections;
import java.util.List;
import java.util.Random;

/** One method for each promise: ordinary inputs, the edges that the document names, wrong inputs. */
public final class PromisesTest {
  private static final int NONE = HeapMover.NONE;
  private static final int UNKNOWN = HeapMover.UNKNOWN;
  private static final int OUTSIDE = HeapMover.OUTSIDE;
  private static final int NOT = HeapMover.NOT;
  private static final int FULL = HeapMover.FULL;
  private static final int MIN = Integer.MIN_VALUE;
  private static final int MAX = Integer.MAX_VALUE;

  private static final Check CHECK = new Check("PromisesTest");

  private static void due(String call, long got, long want) {
    CHECK.due(call, got, want);
  }

  public static void main(String[] args) {
    promise1New();
    promise2Place();
    promise3Road();
    promise4Heap();
    promise5Set();
    promise6Gate();
    promise7Undo();
    promise7UndoOfThirty();
    promise7UndoAndDraft();
    promise8Apart();
    promise9Next();
    promise10Amount();
    promise11Sum();
    promise12Least();
    promise13Plan();
    promise14Alone();
    promise15Height();
    promise16Load();
    promise17Far();
    promise18Shown();
    promise19Some();
    promise20Gated();
    promise21Draft();
    promise22Clear();
    promise23Copy();
    promise24Judge();
    promise25Beside();
    promise26Count();
    ringsOfPlaces();
    refusedInOrder();
    greatestNumbers();
    CHECK.end();
  }

  private static void duePlan(HeapMover x, int[][] want) {
    for (int u = 0; u < want.length; u++) {
      for (int v = 0; v < want.length; v++) {
        due("plan(0, 1, " + u + ", " + v + ")", x.plan(0, 1, u, v), want[u][v]);
      }
    }
  }

  private static void promise1New() {
    HeapMover x = new HeapMover();
    for (int what = 0; what < 5; what++) {
      due("new, count(" + what + ")", x.count(what), 0);
    }
    due("new, count(5)", x.count(5), 1);
    due("new, undo()", x.undo(), NOT);
    due("new, clear()", x.clear(), 0);
    due("new, beside()", x.beside(), 0);
    due("new, apart(0, 0)", x.apart(0, 0), UNKNOWN);
    due("new, sum(0)", x.sum(0), UNKNOWN);
    due("new, draft(0, 0, 0)", x.draft(0, 0, 0), UNKNOWN);
    HeapMover y = new HeapMover();
    x.place();
    due("another object, count(0)", y.count(0), 0);
  }

  private static void promise2Place() {
    HeapMover x = new HeapMover();
    for (int v = 0; v < 10; v++) {
      due("place()", x.place(), v);
    }
    due("place() eleventh", x.place(), FULL);
    due("count(0)", x.count(0), 10);
    due("count(4)", x.count(4), 10);
    due("undo()", x.undo(), 9);
    due("place() again", x.place(), 9);
    due("place() eleventh again", x.place(), FULL);
  }

  private static void promise3Road() {
    HeapMover x = new HeapMover();
    due("road without places", x.road(0, 1, 1), UNKNOWN);
    x.place();
    due("road to no place", x.road(0, 1, 1), UNKNOWN);
    due("road from no place", x.road(1, 0, 1), UNKNOWN);
    due("road below", x.road(-1, 0, 1), UNKNOWN);
    due("road least int", x.road(0, MIN, 1), UNKNOWN);
    due("road greatest int", x.road(MAX, 0, 1), UNKNOWN);
    due("road of one place that is not", x.road(1, 1, 0), UNKNOWN);
    x.place();
    due("road to itself", x.road(1, 1, 5), OUTSIDE);
    due("road of 0", x.road(0, 1, 0), OUTSIDE);
    due("road of -1", x.road(0, 1, -1), OUTSIDE);
    due("road of 1001", x.road(0, 1, 1001), OUTSIDE);
    due("road least length", x.road(0, 1, MIN), OUTSIDE);
    due("road greatest length", x.road(0, 1, MAX), OUTSIDE);
    due("count(1)", x.count(1), 0);
    due("count(4)", x.count(4), 2);
    due("road 1000", x.road(0, 1, 1000), 0);
    due("apart", x.apart(1, 0), 1000);
    due("road 1", x.road(1, 0, 1), 1);
    due("apart shorter", x.apart(0, 1), 1);
    due("road longer", x.road(0, 1, 7), 2);
    due("apart still", x.apart(0, 1), 1);
    for (int road = 3; road < 30; road++) {
      due("road", x.road(0, 1, road), road);
    }
    due("road thirty-first", x.road(0, 1, 1), FULL);
    due("road thirty-first to itself", x.road(0, 0, 1), OUTSIDE);
    due("road thirty-first too long", x.road(0, 1, 1001), OUTSIDE);
    due("road thirty-first to no place", x.road(0, 2, 1), UNKNOWN);
    due("count(1)", x.count(1), 30);
  }

  private static void promise4Heap() {
    HeapMover x = new HeapMover();
    for (int heap = 0; heap < 8; heap++) {
      due("heap()", x.heap(), heap);
    }
    due("heap() ninth", x.heap(), FULL);
    due("count(2)", x.count(2), 8);
    due("count(4)", x.count(4), 8);
    due("sum(7)", x.sum(7), 0);
    due("least without places", x.least(7, 0), 0);
    due("alone without places", x.alone(7, 0), 1);
    due("far without places", x.far(7, 0), 0);
    due("some without places", x.some(7, 0, 0), 0);
    due("gated without places", x.gated(7, 0), 0);
    due("copy without places", x.copy(7, 0), 0);
    due("judge without places", x.judge(7, 0), 0);
  }

  private static void promise5Set() {
    HeapMover x = new HeapMover();
    due("set without all", x.set(0, 0, 0), UNKNOWN);
    x.heap();
    due("set without places", x.set(0, 0, 0), UNKNOWN);
    x.place();
    x.place();
    due("set of no heap", x.set(1, 0, 1001), UNKNOWN);
    due("set of heap -1", x.set(-1, 0, 1), UNKNOWN);
    due("set of place 2", x.set(0, 2, 1), UNKNOWN);
    due("set of place -1", x.set(0, -1, -1), UNKNOWN);
    due("set -1", x.set(0, 0, -1), OUTSIDE);
    due("set 1001", x.set(0, 0, 1001), OUTSIDE);
    due("count(4)", x.count(4), 3);
    due("set 1000", x.set(0, 0, 1000), 0);
    due("set 4", x.set(0, 1, 4), 0);
    due("set 0", x.set(0, 0, 0), 1000);
    due("set 0 again", x.set(0, 0, 0), 0);
    due("set 4 again", x.set(0, 1, 4), 4);
    due("count(4), the same amounts too", x.count(4), 8);
    due("amount", x.amount(0, 1), 4);
  }

  private static void promise6Gate() {
    HeapMover x = new HeapMover();
    due("gate of no place", x.gate(0, 5), UNKNOWN);
    x.place();
    x.place();
    due("gate of place -1", x.gate(-1, -2), UNKNOWN);
    due("gate of place 2", x.gate(2, 5), UNKNOWN);
    due("gate -2", x.gate(0, -2), OUTSIDE);
    due("gate 100001", x.gate(0, 100001), OUTSIDE);
    due("gate least int", x.gate(0, MIN), OUTSIDE);
    due("gate greatest int", x.gate(0, MAX), OUTSIDE);
    due("count(4)", x.count(4), 2);
    due("gate 0", x.gate(0, 0), NONE);
    due("count(3), bound 0 is a gate too", x.count(3), 1);
    due("gate 100000", x.gate(0, 100000), 0);
    due("gate of the other", x.gate(1, 7), NONE);
    due("count(3)", x.count(3), 2);
    due("gate none", x.gate(0, NONE), 100000);
    due("gate none again", x.gate(0, NONE), NONE);
    due("count(3)", x.count(3), 1);
    due("count(4), the same bound too", x.count(4), 7);
  }

  private static void promise7Undo() {
    HeapMover x = new HeapMover();
    due("undo() of nothing", x.undo(), NOT);
    x.place();
    x.place();
    x.road(0, 1, 5);
    x.road(0, 1, 3);
    x.heap();
    x.set(0, 1, 8);
    x.set(0, 1, 9);
    x.gate(1, 4);
    x.gate(1, NONE);
    due("undo() of gate none", x.undo(), 8);
    due("count(3)", x.count(3), 1);
    due("undo() of gate", x.undo(), 7);
    due("count(3)", x.count(3), 0);
    due("undo() of set", x.undo(), 6);
    due("amount", x.amount(0, 1), 8);
    due("undo() of set", x.undo(), 5);
    due("amount", x.amount(0, 1), 0);
    due("undo() of heap", x.undo(), 4);
    due("amount", x.amount(0, 1), UNKNOWN);
    due("apart", x.apart(0, 1), 3);
    due("undo() of road", x.undo(), 3);
    due("apart", x.apart(0, 1), 5);
    due("undo() of road", x.undo(), 2);
    due("apart", x.apart(0, 1), NONE);
    due("count(5)", x.count(5), 0);
    due("undo() of place", x.undo(), 1);
    due("apart", x.apart(0, 1), UNKNOWN);
    due("count(5)", x.count(5), 1);
    due("undo() of place", x.undo(), 0);
    due("count(0)", x.count(0), 0);
    due("undo() of nothing left", x.undo(), NOT);
    x.place();
    x.road(0, 0, 1);
    x.set(0, 0, 1);
    x.gate(0, -2);
    due("undo(), not of refused ones", x.undo(), 0);
    due("count(0)", x.count(0), 0);
  }

  private static void promise7UndoOfThirty() {
    HeapMover x = new HeapMover();
    x.place();
    x.heap();
    for (int amount = 1; amount <= 100; amount++) {
      x.set(0, 0, amount);
    }
    due("count(4)", x.count(4), 30);
    due("undo()", x.undo(), 29);
    due("amount", x.amount(0, 0), 99);
    x.set(0, 0, 500);
    x.set(0, 0, 600);
    due("count(4)", x.count(4), 30);
    for (int left = 29; left >= 0; left--) {
      due("undo()", x.undo(), left);
    }
    due("amount", x.amount(0, 0), 71);
    due("undo() thirty-first", x.undo(), NOT);
    due("amount", x.amount(0, 0), 71);
    due("count(0)", x.count(0), 1);
  }

  private static void promise7UndoAndDraft() {
    HeapMover x = Worlds.line(2, 1);
    x.place();
    x.draft(0, 0, 1);
    x.draft(2, 0, 2);
    x.draft(0, 2, 3);
    x.draft(2, 2, 4);
    due("undo() of place", x.undo(), 5);
    x.place();
    due("draft(2, 0)", x.draft(2, 0, 0), 0);
    due("draft(0, 2)", x.draft(0, 2, 0), 0);
    due("draft(2, 2)", x.draft(2, 2, 0), 0);
    due("draft(0, 0)", x.draft(0, 0, 1), 1);
    x.draft(0, 2, 3);
    x.undo();
    due("clear() after a place went", x.clear(), 1);
    x.draft(0, 1, 6);
    x.set(0, 0, 1);
    x.undo();
    due("draft() is not taken back", x.draft(0, 1, 6), 6);
  }

  private static void promise8Apart() {
    HeapMover x = Worlds.line(3, 10);
    x.place();
    due("apart(3, 3)", x.apart(3, 3), 0);
    due("apart(0, 3)", x.apart(0, 3), NONE);
    due("apart(0, 2)", x.apart(0, 2), 20);
    due("apart(2, 0)", x.apart(2, 0), 20);
    x.road(2, 0, 19);
    due("apart(0, 2) by the new road", x.apart(0, 2), 19);
    due("apart(0, 4)", x.apart(0, 4), UNKNOWN);
    due("apart(-1, 0)", x.apart(-1, 0), UNKNOWN);
    due("apart(4, 4)", x.apart(4, 4), UNKNOWN);
    HeapMover longest = Worlds.line(10, 1000);
    due("apart(0, 9)", longest.apart(0, 9), 9000);
  }

  private static void promise9Next() {
    HeapMover x = Worlds.line(5, 1);
    x.road(0, 3, 2);
    x.road(3, 1, 1);
    due("next, two ways alike", x.next(0, 3), 1);
    due("next, the least of two", x.next(2, 0), 1);
    due("next(4, 0)", x.next(4, 0), 3);
    due("next(3, 0), the road itself", x.next(3, 0), 0);
    due("next(3, 3)", x.next(3, 3), NONE);
    due("next(5, 5)", x.next(5, 5), UNKNOWN);
    due("next(0, -1)", x.next(0, -1), UNKNOWN);
    x.place();
    due("next to where no way is", x.next(0, 5), NONE);
    due("next from where no way is", x.next(5, 0), NONE);
    HeapMover y = Worlds.line(2, 9);
    y.road(0, 1, 4);
    due("next by the shorter of two roads", y.next(0, 1), 1);
  }

  private static void promise10Amount() {
    HeapMover x = Worlds.line(2, 1);
    x.set(1, 0, 12);
    due("amount(1, 0)", x.amount(1, 0), 12);
    due("amount(0, 0)", x.amount(0, 0), 0);
    x.place();
    due("amount of a later place", x.amount(1, 2), 0);
    due("amount(1, 3)", x.amount(1, 3), UNKNOWN);
    due("amount(2, 0)", x.amount(2, 0), UNKNOWN);
    due("amount(-1, 0)", x.amount(-1, 0), UNKNOWN);
    due("amount(0, -1)", x.amount(0, -1), UNKNOWN);
  }

  private static void promise11Sum() {
    HeapMover x = Worlds.line(10, 1);
    for (int v = 0; v < 10; v++) {
      x.set(1, v, 1000);
    }
    due("sum(1)", x.sum(1), 10000);
    due("sum(0)", x.sum(0), 0);
    x.undo();
    due("sum(1) after undo", x.sum(1), 9000);
    due("sum(2)", x.sum(2), UNKNOWN);
    due("sum(-1)", x.sum(-1), UNKNOWN);
  }

  private static void promise12Least() {
    HeapMover x = Worlds.line(4, 3);
    Worlds.fill(x, 0, 5, 0, 1, 0);
    Worlds.fill(x, 1, 0, 2, 0, 4);
    due("least(0, 1)", x.least(0, 1), 2 * 3 + 3 * 9 + 3);
    due("least(1, 0)", x.least(1, 0), 36);
    due("least(0, 0)", x.least(0, 0), 0);
    due("least(0, 2)", x.least(0, 2), UNKNOWN);
    due("least(-1, 0)", x.least(-1, 0), UNKNOWN);
    x.set(1, 3, 5);
    due("least of other sums", x.least(0, 1), NOT);
    x.undo();
    x.place();
    due("least, not joined", x.least(0, 1), NOT);
    due("least of one, not joined", x.least(0, 0), NOT);
  }

  private static void promise13Plan() {
    HeapMover x = Worlds.line(3, 1);
    Worlds.fill(x, 0, 1, 1, 0);
    Worlds.fill(x, 1, 0, 1, 1);
    // 0 to 2 and 1 staying costs as much; G(0, 1) comes first.
    duePlan(x, new int[][] {{0, 1, 0}, {0, 0, 1}, {0, 0, 0}});
    Worlds.fill(x, 0, 2, 1, 0);
    Worlds.fill(x, 1, 1, 1, 1);
    duePlan(x, new int[][] {{1, 1, 0}, {0, 0, 1}, {0, 0, 0}});
    Worlds.fill(x, 0, 0, 1, 2);
    Worlds.fill(x, 1, 2, 1, 0);
    duePlan(x, new int[][] {{0, 0, 0}, {1, 0, 0}, {1, 1, 0}});
    due("plan(0, 1, 0, 3)", x.plan(0, 1, 0, 3), UNKNOWN);
    due("plan(0, 1, -1, 0)", x.plan(0, 1, -1, 0), UNKNOWN);
    due("plan(2, 1, 0, 0)", x.plan(2, 1, 0, 0), UNKNOWN);
    due("plan(0, 2, 0, 0)", x.plan(0, 2, 0, 0), UNKNOWN);
    x.set(0, 0, 1);
    due("plan of other sums", x.plan(0, 1, 0, 0), NOT);
    due("plan of other sums at no place", x.plan(0, 1, 0, 3), UNKNOWN);
    x.undo();
    due("plan after undo", x.plan(0, 1, 2, 1), 1);
    x.road(0, 2, 1);
    duePlan(x, new int[][] {{0, 0, 0}, {0, 1, 0}, {2, 0, 0}});
  }

  private static void promise14Alone() {
    HeapMover x = Worlds.line(3, 1);
    due("alone of nothing", x.alone(0, 1), 1);
    Worlds.fill(x, 0, 1, 1, 0);
    Worlds.fill(x, 1, 0, 1, 1);
    due("alone, two ways", x.alone(0, 1), 0);
    due("alone(0, 0)", x.alone(0, 0), 1);
    Worlds.fill(x, 0, 2, 0, 0);
    due("alone, one way", x.alone(0, 1), 1);
    due("alone(0, 2)", x.alone(0, 2), UNKNOWN);
    x.set(0, 1, 1);
    due("alone of other sums", x.alone(0, 1), NOT);
    x.place();
    due("alone, not joined", x.alone(0, 0), NOT);
  }

  private static void promise15Height() {
    HeapMover x = Worlds.line(4, 2);
    Worlds.fill(x, 0, 0, 3, 0, 0);
    Worlds.fill(x, 1, 0, 0, 3, 0);
    int[] want = {0, 2, 0, 2};
    for (int v = 0; v < 4; v++) {
      due("height(0, 1, " + v + ")", x.height(0, 1, v), want[v]);
    }
    Worlds.fill(x, 1, 3, 0, 0, 0);
    due("height(0, 1, 3)", x.height(0, 1, 3), 6);
    due("height(1, 0, 1)", x.height(1, 0, 1), -2);
    due("height(0, 0, 1), each bound", x.height(0, 0, 1), 2);
    due("height(0, 1, 4)", x.height(0, 1, 4), MIN);
    due("height(0, 1, -1)", x.height(0, 1, -1), MIN);
    due("height(2, 1, 0)", x.height(2, 1, 0), MIN);
    due("height(0, -1, 0)", x.height(0, -1, 0), MIN);
    x.set(0, 0, 1);
    due("height of other sums", x.height(0, 1, 0), MIN);
    x.undo();
    x.place();
    due("height, not joined", x.height(0, 1, 0), MIN);
  }

  private static void promise16Load() {
    HeapMover x = Worlds.line(4, 1);
    x.road(0, 2, 2);
    Worlds.fill(x, 0, 5, 0, 0, 2);
    Worlds.fill(x, 1, 0, 1, 4, 2);
    due("load(0, 1)", x.load(0, 1, 0, 1), 5);
    due("load(1, 2)", x.load(0, 1, 1, 2), 4);
    due("load(2, 1)", x.load(0, 1, 2, 1), 0);
    due("load(0, 2), not on the way", x.load(0, 1, 0, 2), 0);
    due("load(0, 3), no road", x.load(0, 1, 0, 3), 0);
    due("load(3, 3), one place", x.load(0, 1, 3, 3), 0);
    due("load(2, 0) back, the least place is next", x.load(1, 0, 2, 0), 4);
    due("load(2, 1) back", x.load(1, 0, 2, 1), 0);
    due("load(1, 0) back", x.load(1, 0, 1, 0), 1);
    due("load(0, 4)", x.load(0, 1, 0, 4), UNKNOWN);
    due("load(-1, 0)", x.load(0, 1, -1, 0), UNKNOWN);
    due("load of no heap", x.load(0, 2, 0, 1), UNKNOWN);
    x.set(0, 0, 6);
    due("load of other sums", x.load(0, 1, 0, 1), NOT);
    due("load of other sums, no road", x.load(0, 1, 0, 3), NOT);
  }

  private static void promise17Far() {
    HeapMover x = Worlds.line(4, 1);
    due("far of nothing", x.far(0, 1), 0);
    Worlds.fill(x, 0, 2, 1, 0, 0);
    Worlds.fill(x, 1, 0, 1, 1, 1);
    due("far(0, 1)", x.far(0, 1), 2);
    due("far(1, 0)", x.far(1, 0), 2);
    due("far(1, 1)", x.far(1, 1), 0);
    x.road(0, 3, 1);
    due("far(0, 1) by the new road", x.far(0, 1), 1);
    due("far(0, 2)", x.far(0, 2), UNKNOWN);
    due("far(-1, 0)", x.far(-1, 0), UNKNOWN);
    x.set(0, 3, 1);
    due("far of other sums", x.far(0, 1), NOT);
    x.place();
    due("far, not joined", x.far(0, 0), NOT);
    HeapMover y = Worlds.line(10, 1);
    Worlds.fill(y, 0, 1, 1, 1, 1, 1, 1, 1, 1, 1, 1000);
    Worlds.fill(y, 1, 1000, 1, 1, 1, 1, 1, 1, 1, 1, 1);
    due("far, every pair used", y.far(0, 1), 9);
    due("shown, every pair used", y.shown(0, 1, 9), 1);
  }

  private static void promise18Shown() {
    HeapMover x = Worlds.line(4, 1);
    due("shown of nothing", x.shown(0, 1, 0), 0);
    Worlds.fill(x, 0, 2, 1, 0, 0);
    Worlds.fill(x, 1, 0, 1, 1, 1);
    // Far is 2: of {0} short is 2 - 1, of {0, 1} it is 3 - 2; the least set is {0}.
    int[] want = {1, 0, 0, 0};
    for (int v = 0; v < 4; v++) {
      due("shown(0, 1, " + v + ")", x.shown(0, 1, v), want[v]);
    }
    Worlds.fill(x, 0, 1, 2, 0, 0);
    // Of {0} short is 1 - 1, of {0, 1} it is 3 - 2, of {1} it is 2 - 2.
    want = new int[] {1, 1, 0, 0};
    for (int v = 0; v < 4; v++) {
      due("shown(0, 1, " + v + ")", x.shown(0, 1, v), want[v]);
    }
    due("shown(0, 0, 0), far is 0", x.shown(0, 0, 0), 0);
    due("shown(0, 1, 4)", x.shown(0, 1, 4), UNKNOWN);
    due("shown(0, 2, 0)", x.shown(0, 2, 0), UNKNOWN);
    x.set(0, 3, 1);
    due("shown of other sums", x.shown(0, 1, 0), NOT);
    x.place();
    due("shown, not joined", x.shown(0, 0, 0), NOT);
  }

  private static void promise19Some() {
    HeapMover x = Worlds.line(4, 2);
    Worlds.fill(x, 0, 3, 2, 0, 0);
    Worlds.fill(x, 1, 0, 1, 0, 2);
    int[] want = {0, 0, 4, 10};
    for (int m = 0; m < 4; m++) {
      due("some(0, 1, " + m + ")", x.some(0, 1, m), want[m]);
      due("some(1, 0, " + m + ")", x.some(1, 0, m), want[m]);
    }
    due("some, above the lesser sum", x.some(0, 1, 4), OUTSIDE);
    due("some(0, 1, -1)", x.some(0, 1, -1), OUTSIDE);
    due("some(0, 1, greatest int)", x.some(0, 1, MAX), OUTSIDE);
    due("some(0, 1, least int)", x.some(0, 1, MIN), OUTSIDE);
    due("some(2, 1, -1)", x.some(2, 1, -1), UNKNOWN);
    x.place();
    due("some, not joined", x.some(0, 1, 1), NOT);
    due("some 0, not joined", x.some(0, 1, 0), NOT);
    due("some, not joined and outside", x.some(0, 1, 4), OUTSIDE);
  }

  private static void promise20Gated() {
    HeapMover x = Worlds.line(3, 1);
    x.road(0, 2, 10);
    Worlds.fill(x, 0, 4, 0, 0);
    Worlds.fill(x, 1, 0, 0, 4);
    due("gated without gates", x.gated(0, 1), 8);
    x.gate(1, 3);
    due("gated, one goes around", x.gated(0, 1), 3 * 2 + 10);
    x.gate(1, 0);
    due("gated, all go around", x.gated(0, 1), 40);
    x.gate(2, 0);
    due("gated, what comes may stay", x.gated(0, 1), 40);
    x.gate(0, 3);
    due("gated, its own goods too", x.gated(0, 1), NONE);
    x.gate(0, 4);
    due("gated, just so much", x.gated(0, 1), 40);
    x.gate(0, 0);
    due("gated, what lies may stay", x.gated(0, 0), 0);
    x.gate(0, 100000);
    due("gated, a wide gate", x.gated(0, 1), 40);
    due("gated back, shut in", x.gated(1, 0), NONE);
    due("gated(0, 2)", x.gated(0, 2), UNKNOWN);
    x.set(0, 1, 1);
    due("gated of other sums", x.gated(0, 1), NOT);
    x.undo();
    x.place();
    due("gated, not joined", x.gated(0, 1), NOT);
    due("the gates are no bound on least", gatesAndLeast(), 8);
  }

  private static int gatesAndLeast() {
    HeapMover x = Worlds.line(3, 1);
    Worlds.fill(x, 0, 4, 0, 0);
    Worlds.fill(x, 1, 0, 0, 4);
    x.gate(1, 0);
    return x.least(0, 1);
  }

  private static void promise21Draft() {
    HeapMover x = Worlds.line(2, 1);
    int changes = x.count(4);
    due("draft", x.draft(0, 1, 10000), 0);
    due("draft again", x.draft(0, 1, 5), 10000);
    due("draft of the other way", x.draft(1, 0, 3), 0);
    due("draft of one place", x.draft(1, 1, 2), 0);
    due("draft -1", x.draft(0, 1, -1), OUTSIDE);
    due("draft 10001", x.draft(0, 1, 10001), OUTSIDE);
    due("draft of no place", x.draft(0, 2, -1), UNKNOWN);
    due("draft of place -1", x.draft(-1, 0, 1), UNKNOWN);
    due("draft, not changed", x.draft(0, 1, 0), 5);
    due("draft is nothing to take back", x.count(4), changes);
  }

  private static void promise22Clear() {
    HeapMover x = Worlds.line(3, 1);
    due("clear() of nothing", x.clear(), 0);
    x.draft(0, 1, 4);
    x.draft(2, 2, 1);
    x.draft(1, 0, 7);
    x.draft(1, 0, 0);
    due("clear()", x.clear(), 2);
    due("draft(0, 1)", x.draft(0, 1, 0), 0);
    due("draft(2, 2)", x.draft(2, 2, 0), 0);
    due("clear() again", x.clear(), 0);
  }

  private static void promise23Copy() {
    HeapMover x = Worlds.line(3, 1);
    Worlds.fill(x, 0, 2, 1, 0);
    Worlds.fill(x, 1, 1, 1, 1);
    x.draft(2, 0, 9);
    due("copy", x.copy(0, 1), 3);
    due("draft(2, 0) is gone", x.draft(2, 0, 0), 0);
    due("draft(0, 0)", x.draft(0, 0, 1), 1);
    due("draft(0, 1)", x.draft(0, 1, 1), 1);
    due("draft(1, 2)", x.draft(1, 2, 1), 1);
    due("judge", x.judge(0, 1), 0);
    due("copy(0, 2)", x.copy(0, 2), UNKNOWN);
    x.set(0, 0, 9);
    due("copy of other sums", x.copy(0, 1), NOT);
    x.place();
    due("copy, not joined", x.copy(0, 0), NOT);
    due("clear(), not changed", x.clear(), 3);
  }

  private static void promise24Judge() {
    HeapMover x = Worlds.line(3, 2);
    Worlds.fill(x, 0, 2, 1, 0);
    Worlds.fill(x, 1, 1, 1, 1);
    due("judge of nothing", x.judge(0, 1), 1);
    due("beside()", x.beside(), 0);
    x.draft(0, 0, 2);
    due("judge, from 1", x.judge(0, 1), 1);
    due("beside()", x.beside(), 1);
    x.draft(1, 0, 1);
    due("judge, to 0", x.judge(0, 1), 2);
    due("beside()", x.beside(), 0);
    x.draft(0, 0, 1);
    x.draft(0, 2, 1);
    x.draft(1, 0, 0);
    x.draft(1, 1, 1);
    due("judge, another one of least cost", x.judge(0, 1), 0);
    due("beside()", x.beside(), 0);
    x.draft(0, 0, 0);
    x.draft(0, 1, 1);
    x.draft(1, 0, 1);
    x.draft(1, 1, 0);
    due("judge, dear", x.judge(0, 1), 3);
    due("beside()", x.beside(), 8 - 4);
    x.draft(2, 2, 1);
    due("judge, from 2 before dear", x.judge(0, 1), 1);
    due("beside()", x.beside(), 2);
    x.draft(2, 2, 0);
    x.draft(0, 1, 0);
    x.draft(0, 2, 2);
    due("judge, to 1", x.judge(0, 1), 2);
    due("beside()", x.beside(), 1);
    due("judge(0, 2)", x.judge(0, 2), UNKNOWN);
    x.set(0, 0, 9);
    due("judge of other sums", x.judge(0, 1), NOT);
    x.place();
    due("judge, not joined", x.judge(0, 0), NOT);
  }

  private static void promise25Beside() {
    HeapMover x = Worlds.line(3, 5);
    due("beside() without judge", x.beside(), 0);
    Worlds.fill(x, 0, 0, 3, 0);
    Worlds.fill(x, 1, 0, 0, 3);
    due("judge", x.judge(0, 1), 1);
    due("beside()", x.beside(), 1);
    due("judge refused", x.judge(0, 5), UNKNOWN);
    due("beside(), of the one before", x.beside(), 1);
    x.set(0, 0, 1);
    due("judge refused", x.judge(0, 1), NOT);
    due("beside(), of the one before", x.beside(), 1);
    x.undo();
    x.copy(0, 1);
    due("beside(), copy is no judge", x.beside(), 1);
    due("judge", x.judge(0, 1), 0);
    due("beside()", x.beside(), 0);
  }

  private static void promise26Count() {
    HeapMover x = Worlds.line(4, 1);
    x.gate(2, 0);
    x.gate(3, 9);
    x.set(1, 1, 5);
    int[] want = {4, 3, 2, 2, 12, 1};
    for (int what = 0; what < want.length; what++) {
      due("count(" + what + ")", x.count(what), want[what]);
    }
    due("count(-1)", x.count(-1), OUTSIDE);
    due("count(6)", x.count(6), OUTSIDE);
    due("count(least int)", x.count(MIN), OUTSIDE);
    due("count(greatest int)", x.count(MAX), OUTSIDE);
    x.place();
    due("count(5), not joined", x.count(5), 0);
    x.road(4, 0, 1);
    due("count(5), joined", x.count(5), 1);
    HeapMover y = new HeapMover();
    y.place();
    due("count(5) of one place", y.count(5), 1);
  }

  /**
   * Places around a ring, goods lying at each second one: there are just two cheapest plans, all
   * goods going forth or all going back, and it depends on the places' numbers which is the first.
   */
  private static void ringsOfPlaces() {
    Random random = new Random(7);
    for (int turn = 0; turn < 2000; turn++) {
      int places = 4 + 2 * random.nextInt(4);
      List<Integer> around = new ArrayList<>();
      for (int v = 0; v < places; v++) {
        around.add(v);
      }
      Collections.shuffle(around, random);
      ringOfPlaces(around, 1 + random.nextInt(1000));
    }
  }

  private static void ringOfPlaces(List<Integer> around, int amount) {
    int places = around.size();
    HeapMover x = new HeapMover();
    for (int v = 0; v < places; v++) {
      x.place();
    }
    x.heap();
    x.heap();
    int[] forth = new int[places];
    int[] back = new int[places];
    for (int i = 0; i < places; i++) {
      int v = around.get(i);
      forth[v] = around.get((i + 1) % places);
      back[v] = around.get((i + places - 1) % places);
      x.road(v, forth[v], 3);
      x.set(i % 2, v, amount);
    }
    boolean[] wanted = new boolean[places];
    for (int i = 1; i < places; i += 2) {
      wanted[around.get(i)] = true;
    }
    int least = 0;
    while (wanted[least]) {
      least++;
    }
    int[] first = forth[least] < back[least] ? forth : back;
    for (int u = 0; u < places; u++) {
      for (int v = 0; v < places; v++) {
        int goods = !wanted[u] && first[u] == v ? amount : 0;
        due("around " + around + ", plan " + u + " " + v, x.plan(0, 1, u, v), goods);
      }
    }
    due("around " + around + ", alone", x.alone(0, 1), 0);
    due("around " + around + ", least", x.least(0, 1), 3 * amount * (places / 2));
  }

  private static void refusedInOrder() {
    HeapMover x = new HeapMover();
    x.place();
    x.place();
    x.heap();
    due("not joined and no heap", x.least(0, 1), UNKNOWN);
    due("not joined and no place: plan", x.plan(0, 0, 2, 0), UNKNOWN);
    due("not joined and no place: load", x.load(0, 0, 0, 2), UNKNOWN);
    due("not joined and no place: shown", x.shown(0, 0, 2), UNKNOWN);
    due("not joined: plan", x.plan(0, 0, 1, 0), NOT);
    due("not joined: load", x.load(0, 0, 0, 1), NOT);
    due("count(4), nothing changed", x.count(4), 3);
  }

  private static void greatestNumbers() {
    HeapMover x = new HeapMover();
    for (int v = 0; v < 10; v++) {
      x.place();
    }
    for (int v = 1; v < 10; v++) {
      x.road(v - 1, v, 1000);
    }
    x.heap();
    x.heap();
    for (int v = 0; v < 5; v++) {
      x.set(0, v, 1000);
      x.set(1, 9 - v, 1000);
    }
    due("least", x.least(0, 1), 25000000);
    due("gated", x.gated(0, 1), 25000000);
    due("some", x.some(0, 1, 5000), 25000000);
    due("far", x.far(0, 1), 5000);
    due("height(0, 1, 9)", x.height(0, 1, 9), -9000);
    due("plan(0, 1, 0, 5)", x.plan(0, 1, 0, 5), 1000);
    due("load(0, 1, 4, 5)", x.load(0, 1, 4, 5), 5000);
    for (int u = 0; u < 10; u++) {
      for (int v = 0; v < 10; v++) {
        x.draft(u, v, 10000);
      }
    }
    due("judge", x.judge(0, 1), 1);
    due("beside", x.beside(), 0);
    due("clear", x.clear(), 100);
  }
}

import java.util.ArrayList;
import java.util.Arrays;
import java.util.List;
import java.util.function.Supplier;

/**
 * Each word by which a promise refuses calls, a test of its own: what is answered, the first
 * reason that fits being told, and that nothing is changed by it. For each there are worlds of all kinds,
 * and numbers on both sides of every limit, one with the other.
 */
public final class RefusalsTest {
  private static final int UNKNOWN = HeapMover.UNKNOWN;
  private static final int OUTSIDE = HeapMover.OUTSIDE;
  private static final int NOT = HeapMover.NOT;
  private static final int FULL = HeapMover.FULL;
  private static final int MIN = Integer.MIN_VALUE;
  private static final int MAX = Integer.MAX_VALUE;

  private static final Check CHECK = new Check("RefusalsTest");

  private interface Call {
    int on(HeapMover x, int[] n);
  }

  /** The refusal that the document asks for, 0 if there is none. */
  private interface Due {
    int in(World world, int[] n);
  }

  /** What the test knows of a world, and all that can be seen of it when nothing has been refused. */
  private static final class World {
    final String name;
    final Supplier<HeapMover> maker;
    final int places;
    final int roads;
    final boolean joined;
    final int[] sums;
    final int changes;
    final List<Integer> sights;
    final List<Integer> steps;

    World(String name, Supplier<HeapMover> maker, int places, int roads, boolean joined, int changes, int... sums) {
      this.name = name;
      this.maker = maker;
      this.places = places;
      this.roads = roads;
      this.joined = joined;
      this.changes = changes;
      this.sums = sums;
      sights = sights(maker.get());
      steps = steps(maker.get());
    }

    boolean hasPlace(int v) {
      return v >= 0 && v < places;
    }

    boolean hasHeap(int heap) {
      return heap >= 0 && heap < sums.length;
    }
  }

  private static final World[] WORLDS = {
    new World("an empty world", HeapMover::new, 0, 0, true, 0),
    new World("a world taken back", RefusalsTest::takenBack, 0, 0, true, 0),
    new World("a world whose thirty are taken back", RefusalsTest::thirtyTakenBack, 1, 0, true, 0, 3),
    new World("heaps without places", () -> Worlds.heaps(2), 0, 0, true, 2, 0, 0),
    new World("a joined world", RefusalsTest::joined, 3, 3, true, 15, 3, 3, 5),
    new World("a split world", RefusalsTest::split, 4, 3, false, 16, 3, 3, 5),
    new World("a world full of places", RefusalsTest::fullOfPlaces, 10, 10, true, 29, 3, 3, 5),
    new World("a split world full of places", RefusalsTest::splitFullOfPlaces, 10, 3, false, 22, 3, 3, 5),
    new World("a world full of roads", RefusalsTest::fullOfRoads, 3, 30, true, 30, 3, 3, 5),
    new World("a world full of heaps", RefusalsTest::fullOfHeaps, 3, 3, true, 20, 3, 3, 5, 0, 0, 0, 0, 0),
    new World("a world full of all", RefusalsTest::fullOfAll, 10, 30, true, 30, 3, 3, 5, 0, 0, 0, 0, 0),
  };

  public static void main(String[] args) {
    worldsAreAsTold();
    land();
    moving();
    plans();
    theFirstThatFits();
    CHECK.end();
  }

  // ---- the worlds

  private static HeapMover takenBack() {
    HeapMover x = Worlds.line(3, 7);
    Worlds.fill(x, 0, 4, 0, 4);
    x.gate(1, 3);
    x.draft(2, 1, 8);
    while (x.undo() > 0) {
      continue;
    }
    return x;
  }

  private static HeapMover thirtyTakenBack() {
    HeapMover x = Worlds.places(1);
    x.heap();
    x.set(0, 0, 3);
    for (int bound = 0; bound < 30; bound++) {
      x.gate(0, bound);
    }
    while (x.undo() > 0) {
      continue;
    }
    return x;
  }

  /** With a draft that has been judged as dear, so that something stands beside it. */
  private static HeapMover joined() {
    HeapMover x = Worlds.net(3, new int[] {0, 1, 2}, new int[] {1, 2, 2}, new int[] {0, 2, 9});
    x.heap();
    x.set(0, 0, 2);
    x.set(0, 1, 1);
    x.set(1, 0, 1);
    x.set(1, 1, 1);
    x.set(1, 2, 1);
    x.set(2, 0, 5);
    Worlds.draft(x, new int[] {0, 1, 1}, new int[] {1, 0, 0}, new int[] {0, 0, 0});
    x.judge(0, 1);
    return x;
  }

  private static HeapMover split() {
    HeapMover x = joined();
    x.place();
    return x;
  }

  private static HeapMover fullOfPlaces() {
    HeapMover x = joined();
    for (int v = 3; v < 10; v++) {
      x.place();
      x.road(v, v - 1, 1000);
    }
    return x;
  }

  private static HeapMover splitFullOfPlaces() {
    HeapMover x = joined();
    for (int v = 3; v < 10; v++) {
      x.place();
    }
    return x;
  }

  private static HeapMover fullOfRoads() {
    HeapMover x = joined();
    addRoads(x, 3);
    return x;
  }

  private static HeapMover fullOfHeaps() {
    HeapMover x = joined();
    addHeaps(x);
    return x;
  }

  private static HeapMover fullOfAll() {
    HeapMover x = fullOfPlaces();
    addHeaps(x);
    addRoads(x, 10);
    return x;
  }

  private static void addRoads(HeapMover x, int already) {
    for (int road = already; road < 30; road++) {
      x.road(road % 2, 2, 500 + road);
    }
  }

  private static void addHeaps(HeapMover x) {
    for (int heap = 3; heap < 8; heap++) {
      x.heap();
    }
  }

  private static void worldsAreAsTold() {
    CHECK.sentence("the worlds of this test");
    for (World world : WORLDS) {
      HeapMover x = world.maker.get();
      CHECK.due(world.name + ", count(0)", x.count(0), world.places);
      CHECK.due(world.name + ", count(1)", x.count(1), world.roads);
      CHECK.due(world.name + ", count(2)", x.count(2), world.sums.length);
      CHECK.due(world.name + ", count(4)", x.count(4), world.changes);
      CHECK.due(world.name + ", count(5)", x.count(5), world.joined ? 1 : 0);
      for (int heap = 0; heap < world.sums.length; heap++) {
        CHECK.due(world.name + ", sum(" + heap + ")", x.sum(heap), world.sums[heap]);
      }
    }
    CHECK.due("a joined world, beside()", joined().beside(), 4);
  }

  // ---- what can be seen of a world

  private static List<Integer> sights(HeapMover x) {
    List<Integer> seen = new ArrayList<>();
    seen.add(x.beside());
    int places = Math.min(4, x.count(0));
    see(x, places, seen);
    for (int a = 0; a < 2; a++) {
      seeMoving(x, a, 1 - a, places, seen);
    }
    seeDraft(x, places, seen);
    seen.add(x.judge(0, 1));
    seen.add(x.beside());
    return seen;
  }

  private static void see(HeapMover x, int places, List<Integer> seen) {
    for (int what = 0; what < 6; what++) {
      seen.add(x.count(what));
    }
    for (int u = 0; u < places; u++) {
      for (int v = 0; v < places; v++) {
        seen.add(x.apart(u, v));
        seen.add(x.next(u, v));
      }
      for (int heap = 0; heap < 4; heap++) {
        seen.add(x.amount(heap, u));
      }
    }
    for (int heap = 0; heap < 8; heap++) {
      seen.add(x.sum(heap));
    }
  }

  private static void seeMoving(HeapMover x, int a, int b, int places, List<Integer> seen) {
    seen.add(x.least(a, b));
    seen.add(x.alone(a, b));
    seen.add(x.far(a, b));
    seen.add(x.gated(a, b));
    seen.add(x.some(a, b, 2));
    for (int u = 0; u < places; u++) {
      seen.add(x.height(a, b, u));
      seen.add(x.shown(a, b, u));
      for (int v = 0; v < places; v++) {
        seen.add(x.plan(a, b, u, v));
        seen.add(x.load(a, b, u, v));
      }
    }
  }

  private static void seeDraft(HeapMover x, int places, List<Integer> seen) {
    for (int u = 0; u < places; u++) {
      for (int v = 0; v < places; v++) {
        int n = x.draft(u, v, 0);
        seen.add(n);
        x.draft(u, v, n);
      }
    }
  }

  /** Some steps forth, and then back as far as can be. */
  private static List<Integer> steps(HeapMover x) {
    List<Integer> seen = new ArrayList<>();
    seen.add(x.place());
    seen.add(x.heap());
    seen.add(x.road(0, 1, 1));
    seen.add(x.set(0, 0, 9));
    seen.add(x.gate(0, 5));
    seen.add(x.gate(0, 6));
    for (int step = 0; step < 32; step++) {
      seen.add(x.undo());
      for (int what = 0; what < 6; what++) {
        seen.add(x.count(what));
      }
      seen.add(x.apart(0, 1));
      seen.add(x.amount(0, 0));
      seen.add(x.sum(1));
    }
    seen.add(x.clear());
    return seen;
  }

  // ---- how a word of refusal is tested

  /** Numbers on both sides of each limit, by a letter for what an argument is; in each the first one is fine. */
  private static int[] numbers(World world, char kind) {
    switch (kind) {
      case 'P': return new int[] {0, world.places - 1, world.places, -1};
      case 'H': return new int[] {0, 1, 2, world.sums.length, -1};
      case 'L': return new int[] {1, 1000, 0, 1001, -1};
      case 'A': return new int[] {0, 1000, 1001, -1};
      case 'B': return new int[] {0, 100000, -1, 100001, -2};
      case 'D': return new int[] {0, 10000, 10001, -1};
      case 'M': return new int[] {0, 3, 4, 5, 6, -1};
      case 'W': return new int[] {0, 5, 6, -1};
      default: throw new IllegalStateException("no such kind");
    }
  }

  /** Such calls as are refused by this word; at least one world has one. */
  private static void refused(String words, int word, String kinds, Call call, Due due) {
    CHECK.sentence(words);
    int found = 0;
    for (World world : WORLDS) {
      int[] n = new int[kinds.length()];
      found += everyCall(world, word, kinds, call, due, n, 0);
      for (int i = 0; i < n.length; i++) {
        found += strangeCalls(world, word, kinds, call, due, i);
      }
    }
    CHECK.due("calls that are refused so", Math.min(found, 1), 1);
  }

  private static int everyCall(World world, int word, String kinds, Call call, Due due, int[] n, int i) {
    if (i == n.length) {
      return oneCall(world, word, call, due, n);
    }
    int found = 0;
    for (int number : numbers(world, kinds.charAt(i))) {
      n[i] = number;
      found += everyCall(world, word, kinds, call, due, n, i + 1);
    }
    return found;
  }

  /** One number is far off, and all others are fine. */
  private static int strangeCalls(World world, int word, String kinds, Call call, Due due, int i) {
    int[] n = new int[kinds.length()];
    for (int k = 0; k < n.length; k++) {
      n[k] = numbers(world, kinds.charAt(k))[0];
    }
    int found = 0;
    for (int number : new int[] {MIN, MIN + 1, -6, 8, 10, 30, 100002, 1 << 30, MAX - 1, MAX}) {
      n[i] = number;
      found += oneCall(world, word, call, due, n);
    }
    return found;
  }

  private static int oneCall(World world, int word, Call call, Due due, int[] n) {
    if (due.in(world, n) != word) {
      return 0;
    }
    String name = world.name + ", " + Arrays.toString(n);
    HeapMover x = world.maker.get();
    CHECK.due(name, call.on(x, n), word);
    CHECK.due(name + " again", call.on(x, n), word);
    CHECK.due(name + ", first change of what is seen", firstChange(sights(x), world.sights), -1);
    HeapMover y = world.maker.get();
    call.on(y, n);
    CHECK.due(name + ", first change of later steps", firstChange(steps(y), world.steps), -1);
    return 1;
  }

  private static int firstChange(List<Integer> seen, List<Integer> before) {
    for (int i = 0; i < Math.min(seen.size(), before.size()); i++) {
      if (!seen.get(i).equals(before.get(i))) {
        return i;
      }
    }
    return seen.size() == before.size() ? -1 : Math.min(seen.size(), before.size());
  }

  // ---- the promises' words

  private static void land() {
    refused("Promise 2, place: FULL", FULL, "", (x, n) -> x.place(), (w, n) -> w.places == 10 ? FULL : 0);
    Call road = (x, n) -> x.road(n[0], n[1], n[2]);
    refused("Promise 3, road: UNKNOWN", UNKNOWN, "PPL", road, RefusalsTest::dueOfRoad);
    refused("Promise 3, road: OUTSIDE: LENGTH, u is v", OUTSIDE, "PPL", road, RefusalsTest::dueOfRoad);
    refused("Promise 3, road: FULL", FULL, "PPL", road, RefusalsTest::dueOfRoad);
    refused("Promise 4, heap: FULL", FULL, "", (x, n) -> x.heap(), (w, n) -> w.sums.length == 8 ? FULL : 0);
    Call set = (x, n) -> x.set(n[0], n[1], n[2]);
    refused("Promise 5, set: UNKNOWN", UNKNOWN, "HPA", set, RefusalsTest::dueOfSet);
    refused("Promise 5, set: OUTSIDE", OUTSIDE, "HPA", set, RefusalsTest::dueOfSet);
    Call gate = (x, n) -> x.gate(n[0], n[1]);
    refused("Promise 6, gate: UNKNOWN", UNKNOWN, "PB", gate, RefusalsTest::dueOfGate);
    refused("Promise 6, gate: OUTSIDE: below NONE, above 100000", OUTSIDE, "PB", gate, RefusalsTest::dueOfGate);
    refused("Promise 7, undo: NOT: none", NOT, "", (x, n) -> x.undo(), (w, n) -> w.changes == 0 ? NOT : 0);
    refused("Promise 8, apart: UNKNOWN", UNKNOWN, "PP", (x, n) -> x.apart(n[0], n[1]), RefusalsTest::dueOfPlaces);
    refused("Promise 9, next: UNKNOWN", UNKNOWN, "PP", (x, n) -> x.next(n[0], n[1]), RefusalsTest::dueOfPlaces);
    refused("Promise 10, amount: UNKNOWN", UNKNOWN, "HP", (x, n) -> x.amount(n[0], n[1]),
        (w, n) -> w.hasHeap(n[0]) && w.hasPlace(n[1]) ? 0 : UNKNOWN);
    refused("Promise 11, sum: UNKNOWN", UNKNOWN, "H", (x, n) -> x.sum(n[0]),
        (w, n) -> w.hasHeap(n[0]) ? 0 : UNKNOWN);
  }

  private static void moving() {
    refusedMoving("Promise 12, least", "HH", (x, n) -> x.least(n[0], n[1]));
    refusedMoving("Promise 13, plan", "HHPP", (x, n) -> x.plan(n[0], n[1], n[2], n[3]));
    refusedMoving("Promise 14, alone", "HH", (x, n) -> x.alone(n[0], n[1]));
    refusedHeight();
    refusedMoving("Promise 16, load", "HHPP", (x, n) -> x.load(n[0], n[1], n[2], n[3]));
    refusedMoving("Promise 17, far", "HH", (x, n) -> x.far(n[0], n[1]));
    refusedMoving("Promise 18, shown", "HHP", (x, n) -> x.shown(n[0], n[1], n[2]));
    Call some = (x, n) -> x.some(n[0], n[1], n[2]);
    refused("Promise 19, some: UNKNOWN", UNKNOWN, "HHM", some, RefusalsTest::dueOfSome);
    refused("Promise 19, some: OUTSIDE", OUTSIDE, "HHM", some, RefusalsTest::dueOfSome);
    refused("Promise 19, some: NOT: not JOINED", NOT, "HHM", some, RefusalsTest::dueOfSome);
    refusedMoving("Promise 20, gated", "HH", (x, n) -> x.gated(n[0], n[1]));
  }

  private static void plans() {
    Call draft = (x, n) -> x.draft(n[0], n[1], n[2]);
    refused("Promise 21, draft: UNKNOWN", UNKNOWN, "PPD", draft, RefusalsTest::dueOfDraft);
    refused("Promise 21, draft: OUTSIDE", OUTSIDE, "PPD", draft, RefusalsTest::dueOfDraft);
    refusedMoving("Promise 23, copy", "HH", (x, n) -> x.copy(n[0], n[1]));
    refusedMoving("Promise 24, judge", "HH", (x, n) -> x.judge(n[0], n[1]));
    refused("Promise 26, count: OUTSIDE", OUTSIDE, "W", (x, n) -> x.count(n[0]),
        (w, n) -> n[0] < 0 || n[0] > 5 ? OUTSIDE : 0);
  }

  private static void refusedMoving(String promise, String kinds, Call call) {
    refused(promise + ": UNKNOWN, no such HEAP", UNKNOWN, kinds, call, RefusalsTest::dueOfHeapsAlone);
    if (kinds.contains("P")) {
      refused(promise + ": UNKNOWN, no such PLACE", UNKNOWN, kinds, call, RefusalsTest::dueOfPlacesAlone);
    }
    refused(promise + ": NOT: not JOINED", NOT, kinds, call, (w, n) -> w.joined ? 0 : dueOfMoving(w, n));
    refused(promise + ": NOT: of other SUMS", NOT, kinds, call, (w, n) -> w.joined ? dueOfMoving(w, n) : 0);
  }

  private static void refusedHeight() {
    Call height = (x, n) -> x.height(n[0], n[1], n[2]);
    refused("Promise 15, height: The least int: UNKNOWN, no such HEAP", MIN, "HHP", height,
        (w, n) -> dueOfHeapsAlone(w, n) == UNKNOWN ? MIN : 0);
    refused("Promise 15, height: The least int: UNKNOWN, no such PLACE", MIN, "HHP", height,
        (w, n) -> dueOfPlacesAlone(w, n) == UNKNOWN ? MIN : 0);
    refused("Promise 15, height: The least int: NOT: not JOINED", MIN, "HHP", height,
        (w, n) -> !w.joined && dueOfMoving(w, n) == NOT ? MIN : 0);
    refused("Promise 15, height: The least int: NOT: of other SUMS", MIN, "HHP", height,
        (w, n) -> w.joined && dueOfMoving(w, n) == NOT ? MIN : 0);
  }

  // ---- calls for which several reasons fit

  private static void theFirstThatFits() {
    unknownBeforeOutside();
    unknownBeforeNot();
    unknownBeforeFull();
    outsideBeforeNot();
    outsideBeforeFull();
  }

  private static void unknownBeforeOutside() {
    CHECK.sentence("the first of these that fits", "UNKNOWN before OUTSIDE");
    HeapMover x = joined();
    CHECK.due("road(0, 3, 0)", x.road(0, 3, 0), UNKNOWN);
    CHECK.due("road(3, 0, 1001)", x.road(3, 0, 1001), UNKNOWN);
    CHECK.due("road(3, 3, 1)", x.road(3, 3, 1), UNKNOWN);
    CHECK.due("road(-1, -1, 1)", x.road(-1, -1, 1), UNKNOWN);
    CHECK.due("set(3, 0, 1001)", x.set(3, 0, 1001), UNKNOWN);
    CHECK.due("set(0, 3, -1)", x.set(0, 3, -1), UNKNOWN);
    CHECK.due("gate(3, -2)", x.gate(3, -2), UNKNOWN);
    CHECK.due("gate(-1, 100001)", x.gate(-1, 100001), UNKNOWN);
    CHECK.due("draft(3, 0, 10001)", x.draft(3, 0, 10001), UNKNOWN);
    CHECK.due("draft(0, -1, -1)", x.draft(0, -1, -1), UNKNOWN);
    CHECK.due("some(3, 0, -1)", x.some(3, 0, -1), UNKNOWN);
    CHECK.due("some(0, -1, 11000)", x.some(0, -1, 11000), UNKNOWN);
  }

  private static void unknownBeforeNot() {
    CHECK.sentence("the first of these that fits", "UNKNOWN before NOT");
    HeapMover x = split();
    CHECK.due("least(0, 3)", x.least(0, 3), UNKNOWN);
    CHECK.due("plan(3, 0, 0, 0)", x.plan(3, 0, 0, 0), UNKNOWN);
    CHECK.due("plan(0, 1, 4, 0)", x.plan(0, 1, 4, 0), UNKNOWN);
    CHECK.due("plan(0, 2, 0, 4)", x.plan(0, 2, 0, 4), UNKNOWN);
    CHECK.due("alone(-1, 0)", x.alone(-1, 0), UNKNOWN);
    CHECK.due("load(0, 1, 4, 0)", x.load(0, 1, 4, 0), UNKNOWN);
    CHECK.due("load(0, 2, 0, -1)", x.load(0, 2, 0, -1), UNKNOWN);
    CHECK.due("far(3, 3)", x.far(3, 3), UNKNOWN);
    CHECK.due("shown(0, 2, 4)", x.shown(0, 2, 4), UNKNOWN);
    CHECK.due("some(0, 3, 0)", x.some(0, 3, 0), UNKNOWN);
    CHECK.due("gated(3, 0)", x.gated(3, 0), UNKNOWN);
    CHECK.due("copy(0, -1)", x.copy(0, -1), UNKNOWN);
    CHECK.due("judge(3, 0)", x.judge(3, 0), UNKNOWN);
  }

  private static void unknownBeforeFull() {
    CHECK.sentence("the first of these that fits", "UNKNOWN before FULL");
    CHECK.due("road(0, 3, 1)", fullOfRoads().road(0, 3, 1), UNKNOWN);
    CHECK.due("road(-1, 0, 1)", fullOfRoads().road(-1, 0, 1), UNKNOWN);
    CHECK.due("road(9, 10, 1)", fullOfAll().road(9, 10, 1), UNKNOWN);
  }

  private static void outsideBeforeNot() {
    CHECK.sentence("the first of these that fits", "OUTSIDE before NOT");
    CHECK.due("some(0, 1, -1)", split().some(0, 1, -1), OUTSIDE);
    CHECK.due("some(0, 1, 4)", split().some(0, 1, 4), OUTSIDE);
    CHECK.due("some(0, 1, 3)", split().some(0, 1, 3), NOT);
  }

  private static void outsideBeforeFull() {
    CHECK.sentence("the first of these that fits", "OUTSIDE before FULL");
    CHECK.due("road(0, 1, 0)", fullOfRoads().road(0, 1, 0), OUTSIDE);
    CHECK.due("road(0, 1, 1001)", fullOfRoads().road(0, 1, 1001), OUTSIDE);
    CHECK.due("road(2, 2, 1)", fullOfRoads().road(2, 2, 1), OUTSIDE);
    CHECK.due("road(0, 1, 1)", fullOfRoads().road(0, 1, 1), FULL);
  }

  // ---- which refusal is due

  private static int dueOfPlaces(World w, int[] n) {
    return w.hasPlace(n[0]) && w.hasPlace(n[1]) ? 0 : UNKNOWN;
  }

  private static int dueOfRoad(World w, int[] n) {
    if (dueOfPlaces(w, n) != 0) {
      return UNKNOWN;
    }
    if (n[2] < 1 || n[2] > 1000 || n[0] == n[1]) {
      return OUTSIDE;
    }
    return w.roads == 30 ? FULL : 0;
  }

  private static int dueOfSet(World w, int[] n) {
    if (!w.hasHeap(n[0]) || !w.hasPlace(n[1])) {
      return UNKNOWN;
    }
    return n[2] < 0 || n[2] > 1000 ? OUTSIDE : 0;
  }

  private static int dueOfGate(World w, int[] n) {
    if (!w.hasPlace(n[0])) {
      return UNKNOWN;
    }
    return n[1] < -1 || n[1] > 100000 ? OUTSIDE : 0;
  }

  private static int dueOfDraft(World w, int[] n) {
    if (dueOfPlaces(w, n) != 0) {
      return UNKNOWN;
    }
    return n[2] < 0 || n[2] > 10000 ? OUTSIDE : 0;
  }

  private static int dueOfSome(World w, int[] n) {
    if (!w.hasHeap(n[0]) || !w.hasHeap(n[1])) {
      return UNKNOWN;
    }
    if (n[2] < 0 || n[2] > w.sums[n[0]] || n[2] > w.sums[n[1]]) {
      return OUTSIDE;
    }
    return w.joined ? 0 : NOT;
  }

  private static boolean hasHeaps(World w, int[] n) {
    return w.hasHeap(n[0]) && w.hasHeap(n[1]);
  }

  private static boolean hasPlaces(World w, int[] n) {
    boolean has = true;
    for (int i = 2; i < n.length; i++) {
      has &= w.hasPlace(n[i]);
    }
    return has;
  }

  private static int dueOfHeapsAlone(World w, int[] n) {
    return hasHeaps(w, n) ? 0 : UNKNOWN;
  }

  private static int dueOfPlacesAlone(World w, int[] n) {
    return hasPlaces(w, n) ? 0 : UNKNOWN;
  }

  private static int dueOfMoving(World w, int[] n) {
    if (!hasHeaps(w, n) || !hasPlaces(w, n)) {
      return UNKNOWN;
    }
    return w.joined && w.sums[n[0]] == w.sums[n[1]] ? 0 : NOT;
  }
}

/** One method for each sentence of the document's 'What it is' and 'Terms' that names a boundary case. */
public final class TermsTest {
  private static final int NONE = HeapMover.NONE;
  private static final int UNKNOWN = HeapMover.UNKNOWN;
  private static final int OUTSIDE = HeapMover.OUTSIDE;
  private static final int NOT = HeapMover.NOT;
  private static final int FULL = HeapMover.FULL;

  private static final Check CHECK = new Check("TermsTest");

  public static void main(String[] args) {
    land();
    heaps();
    plans();
    heights();
    distances();
    partsAndGates();
    drafts();
    changes();
    CHECK.end();
  }

  private static void due(String call, long got, long want) {
    CHECK.due(call, got, want);
  }

  private static void duePlan(HeapMover x, int[]... rows) {
    for (int u = 0; u < rows.length; u++) {
      for (int v = 0; v < rows.length; v++) {
        due("plan(0, 1, " + u + ", " + v + ")", x.plan(0, 1, u, v), rows[u][v]);
      }
    }
  }

  private static void dueHeights(HeapMover x, int... heights) {
    for (int v = 0; v < heights.length; v++) {
      due("height(0, 1, " + v + ")", x.height(0, 1, v), heights[v]);
    }
  }

  private static void dueShown(HeapMover x, int... shown) {
    for (int u = 0; u < shown.length; u++) {
      due("shown(0, 1, " + u + ")", x.shown(0, 1, u), shown[u]);
    }
  }

  // ---- places and roads

  private static void land() {
    placesTenAtMost();
    callsUpTo512();
    roadsThirtyAtMost();
    roadsJoinTwoPlaces();
    lengthsOneToThousand();
    roadsBothWaysAlike();
    severalRoadsOfTheSameTwo();
    apartIsTheLeastSum();
    apartOfOneAndTheSame();
    joinedIfEachTwoHaveAWay();
    theWayTakesTheLeastPlace();
    theWayGoesOnToItsEnd();
  }

  private static void placesTenAtMost() {
    CHECK.sentence("PLACES are numbered from 0, 10 at most");
    HeapMover x = new HeapMover();
    due("apart(0, 0) before the first", x.apart(0, 0), UNKNOWN);
    for (int v = 0; v < 10; v++) {
      due("apart of the next one", x.apart(v, v), UNKNOWN);
      due("place()", x.place(), v);
      due("apart of it", x.apart(v, v), 0);
    }
    due("place(), the eleventh", x.place(), FULL);
    due("place(), the eleventh again", x.place(), FULL);
    due("apart(9, 9)", x.apart(9, 9), 0);
    due("apart(10, 10)", x.apart(10, 10), UNKNOWN);
    due("count(0)", x.count(0), 10);
  }

  private static void callsUpTo512() {
    CHECK.sentence("An object is used for at most 512 calls after it has been made");
    HeapMover x = Worlds.places(2);
    x.road(0, 1, 1000);
    x.heap();
    for (int amount = 1; amount <= 470; amount++) {
      due("set(), call " + (amount + 4), x.set(0, 0, amount), amount - 1);
    }
    for (int left = 29; left >= 0; left--) {
      due("undo()", x.undo(), left);
    }
    due("amount(), call 505", x.amount(0, 0), 440);
    due("undo(), call 506", x.undo(), NOT);
    due("least(), call 507", x.least(0, 0), 0);
    due("count(4), call 508", x.count(4), 0);
    due("set(), call 509", x.set(0, 1, 1000), 0);
    due("sum(), call 510", x.sum(0), 1440);
    due("undo(), call 511", x.undo(), 0);
    due("sum(), call 512", x.sum(0), 440);
  }

  private static void roadsThirtyAtMost() {
    CHECK.sentence("ROADS (30 at most)");
    HeapMover x = Worlds.places(10);
    for (int road = 0; road < 30; road++) {
      int u = road % 10;
      due("road()", x.road(u, (u + 1 + road / 10) % 10, 500), road);
    }
    due("road(), the thirty-first", x.road(0, 5, 1), FULL);
    due("count(1)", x.count(1), 30);
    due("apart(0, 5), not by a road that was refused", x.apart(0, 5), 1000);
    x.undo();
    due("road(), the thirtieth again", x.road(0, 5, 1), 29);
    due("apart(0, 5)", x.apart(0, 5), 1);
    due("road(), the thirty-first again", x.road(0, 6, 1), FULL);
  }

  private static void roadsJoinTwoPlaces() {
    CHECK.sentence("join two PLACES");
    HeapMover x = Worlds.places(10);
    due("road(0, 0, 1)", x.road(0, 0, 1), OUTSIDE);
    due("road(9, 9, 1000)", x.road(9, 9, 1000), OUTSIDE);
    due("count(1)", x.count(1), 0);
    due("road(9, 0, 1)", x.road(9, 0, 1), 0);
    due("apart(9, 0)", x.apart(9, 0), 1);
  }

  private static void lengthsOneToThousand() {
    CHECK.sentence("with a LENGTH (1 .. 1000)");
    HeapMover x = Worlds.places(3);
    due("road of 0", x.road(0, 1, 0), OUTSIDE);
    due("road of -1", x.road(0, 1, -1), OUTSIDE);
    due("road of 1001", x.road(0, 1, 1001), OUTSIDE);
    due("road of the least int", x.road(0, 1, Integer.MIN_VALUE), OUTSIDE);
    due("road of the greatest int", x.road(0, 1, Integer.MAX_VALUE), OUTSIDE);
    due("apart(0, 1) after them", x.apart(0, 1), NONE);
    due("road of 1", x.road(0, 1, 1), 0);
    due("road of 1000", x.road(1, 2, 1000), 1);
    due("apart(0, 1)", x.apart(0, 1), 1);
    due("apart(1, 2)", x.apart(1, 2), 1000);
  }

  private static void roadsBothWaysAlike() {
    CHECK.sentence("both ways alike");
    HeapMover x = Worlds.net(2, new int[] {1, 0, 7});
    due("apart(0, 1)", x.apart(0, 1), 7);
    due("apart(1, 0)", x.apart(1, 0), 7);
    due("next(0, 1)", x.next(0, 1), 1);
    due("next(1, 0)", x.next(1, 0), 0);
    Worlds.fill(x, 0, 3, 0);
    Worlds.fill(x, 1, 0, 3);
    due("gated(0, 1)", x.gated(0, 1), 21);
    due("gated(1, 0)", x.gated(1, 0), 21);
    due("load(0, 1, 0, 1)", x.load(0, 1, 0, 1), 3);
    due("load(1, 0, 1, 0)", x.load(1, 0, 1, 0), 3);
  }

  private static void severalRoadsOfTheSameTwo() {
    CHECK.sentence("several may join the same two");
    HeapMover x = Worlds.places(2);
    due("road of 9", x.road(0, 1, 9), 0);
    due("road of 4", x.road(1, 0, 4), 1);
    due("road of 4 again", x.road(0, 1, 4), 2);
    due("road of 6", x.road(0, 1, 6), 3);
    due("count(1)", x.count(1), 4);
    due("apart(0, 1), the shortest", x.apart(0, 1), 4);
    x.undo();
    x.undo();
    due("apart(0, 1), one of 4 is left", x.apart(0, 1), 4);
    x.undo();
    due("apart(0, 1), that of 9 is left", x.apart(0, 1), 9);
    x.undo();
    due("apart(0, 1), none is left", x.apart(0, 1), NONE);
  }

  private static void apartIsTheLeastSum() {
    CHECK.sentence("APART(u, v) is the least sum of LENGTHS of a way from u to v");
    HeapMover x = Worlds.net(3, new int[] {0, 2, 20}, new int[] {0, 1, 10});
    due("apart(1, 2) around", x.apart(1, 2), 30);
    x.road(1, 2, 10);
    due("apart(0, 2), both ways of 20", x.apart(0, 2), 20);
    x.road(1, 2, 9);
    due("apart(0, 2), around is shorter", x.apart(0, 2), 19);
    x.road(0, 2, 18);
    due("apart(0, 2), the road is shorter", x.apart(0, 2), 18);
    due("apart of ten in a line", Worlds.line(10, 1000).apart(9, 0), 9000);
  }

  private static void apartOfOneAndTheSame() {
    CHECK.sentence("0 for one and the same");
    HeapMover x = Worlds.net(3, new int[] {0, 1, 1});
    for (int v = 0; v < 3; v++) {
      due("apart(" + v + ", " + v + ")", x.apart(v, v), 0);
    }
  }

  private static void joinedIfEachTwoHaveAWay() {
    CHECK.sentence("all is JOINED, if each two have a way");
    due("without places", new HeapMover().count(5), 1);
    due("one place", Worlds.places(1).count(5), 1);
    due("two places, no road", Worlds.places(2).count(5), 0);
    HeapMover x = Worlds.net(4, new int[] {1, 2, 5}, new int[] {2, 3, 5});
    due("the first one alone", x.count(5), 0);
    due("least(), the first one alone", x.least(0, 1), NOT);
    x.road(3, 0, 1000);
    due("a way for each two", x.count(5), 1);
    due("least(), a way for each two", x.least(0, 1), 0);
    x.place();
    due("the last one alone", x.count(5), 0);
    due("least(), the last one alone", x.least(0, 1), NOT);
    due("two and two", Worlds.net(4, new int[] {0, 1, 1}, new int[] {2, 3, 1}).count(5), 0);
  }

  private static void theWayTakesTheLeastPlace() {
    CHECK.sentence("those to w with LENGTH and APART(w, v) together just APART(u, v);"
        + " the least w of such ones is next");
    HeapMover x = Worlds.net(5, new int[] {0, 3, 1}, new int[] {3, 4, 1}, new int[] {0, 2, 1},
        new int[] {2, 4, 1}, new int[] {0, 1, 2}, new int[] {1, 4, 1});
    due("next(0, 4), by 1 it is longer", x.next(0, 4), 2);
    due("next(4, 0)", x.next(4, 0), 2);
    x.road(0, 1, 1);
    due("next(0, 4), by 1 as long", x.next(0, 4), 1);
    x.road(0, 4, 2);
    due("next(0, 4), the road itself is as long", x.next(0, 4), 1);
    due("next(4, 0), the road itself is as long", x.next(4, 0), 0);
    x.road(0, 4, 1);
    due("next(0, 4), the road itself is shorter", x.next(0, 4), 4);
  }

  private static void theWayGoesOnToItsEnd() {
    CHECK.sentence("and so on to v");
    // From 5 to 4 by 3 or by 2, then by 1 or by 0: each place takes the least one anew.
    HeapMover x = Worlds.net(6, new int[] {5, 3, 1}, new int[] {5, 2, 1}, new int[] {2, 1, 1},
        new int[] {3, 0, 1}, new int[] {1, 4, 1}, new int[] {0, 4, 1});
    due("next(5, 4)", x.next(5, 4), 2);
    due("next(2, 4)", x.next(2, 4), 1);
    due("next(1, 4)", x.next(1, 4), 4);
    due("next(4, 4)", x.next(4, 4), NONE);
    due("next(4, 5)", x.next(4, 5), 0);
    due("next(0, 5)", x.next(0, 5), 3);
    due("next(3, 5)", x.next(3, 5), 5);
  }

  // ---- heaps and gates

  private static void heaps() {
    heapsEightAtMost();
    amountsZeroToThousand();
    amountsZeroAtFirst();
    amountsOfLaterPlaces();
    sumOfAllAmounts();
    boundsZeroToHundredThousand();
    noGateAtFirst();
  }

  private static void heapsEightAtMost() {
    CHECK.sentence("HEAPS are numbered from 0, 8 at most");
    HeapMover x = new HeapMover();
    for (int heap = 0; heap < 8; heap++) {
      due("sum of the next one", x.sum(heap), UNKNOWN);
      due("heap()", x.heap(), heap);
      due("sum of it", x.sum(heap), 0);
    }
    due("heap(), the ninth", x.heap(), FULL);
    due("sum(8)", x.sum(8), UNKNOWN);
    due("count(2)", x.count(2), 8);
  }

  private static void amountsZeroToThousand() {
    CHECK.sentence("of each PLACE an AMOUNT (0 .. 1000");
    HeapMover x = Worlds.line(2, 1);
    due("set 1000", x.set(0, 0, 1000), 0);
    due("set 1001", x.set(0, 0, 1001), OUTSIDE);
    due("amount", x.amount(0, 0), 1000);
    due("set 0", x.set(0, 0, 0), 1000);
    due("set -1", x.set(0, 0, -1), OUTSIDE);
    due("amount", x.amount(0, 0), 0);
    due("set the least int", x.set(0, 0, Integer.MIN_VALUE), OUTSIDE);
    due("set the greatest int", x.set(0, 0, Integer.MAX_VALUE), OUTSIDE);
    due("amount of the other place", x.amount(0, 1), 0);
    due("amount of the other heap", x.amount(1, 0), 0);
  }

  private static void amountsZeroAtFirst() {
    CHECK.sentence("0 at first");
    HeapMover x = Worlds.places(10);
    x.heap();
    for (int v = 0; v < 10; v++) {
      due("amount(0, " + v + ")", x.amount(0, v), 0);
      x.set(0, v, 5);
    }
    x.heap();
    due("amount of a heap that comes later", x.amount(1, 9), 0);
    x.set(1, 9, 8);
    x.undo();
    x.undo();
    x.heap();
    due("amount of a heap that went and came", x.amount(1, 9), 0);
  }

  private static void amountsOfLaterPlaces() {
    CHECK.sentence("of PLACES that come later, too");
    HeapMover x = Worlds.heaps(8);
    x.place();
    x.set(7, 0, 6);
    x.place();
    due("amount(7, 1)", x.amount(7, 1), 0);
    due("sum(7)", x.sum(7), 6);
    x.set(7, 1, 9);
    x.undo();
    x.undo();
    due("sum(7) when the place went", x.sum(7), 6);
    x.place();
    due("amount of a place that went and came", x.amount(7, 1), 0);
  }

  private static void sumOfAllAmounts() {
    CHECK.sentence("A SUM are all its AMOUNTS");
    HeapMover x = Worlds.heaps(2);
    due("sum without places", x.sum(0), 0);
    for (int v = 0; v < 10; v++) {
      x.place();
      due("sum before", x.sum(0), 1000 * v);
      x.set(0, v, 1000);
    }
    due("sum of ten greatest amounts", x.sum(0), 10000);
    due("sum of the other heap", x.sum(1), 0);
    x.set(0, 4, 0);
    due("sum with one less", x.sum(0), 9000);
  }

  private static void boundsZeroToHundredThousand() {
    CHECK.sentence("A GATE is a PLACE with a BOUND (0 .. 100000)");
    HeapMover x = Worlds.line(2, 1);
    due("gate 0", x.gate(0, 0), NONE);
    due("count(3), one of bound 0", x.count(3), 1);
    due("gate 100000", x.gate(0, 100000), 0);
    due("gate 100001", x.gate(0, 100001), OUTSIDE);
    due("gate -2", x.gate(0, -2), OUTSIDE);
    due("gate the least int", x.gate(0, Integer.MIN_VALUE), OUTSIDE);
    due("gate the greatest int", x.gate(0, Integer.MAX_VALUE), OUTSIDE);
    due("gate none, it had 100000", x.gate(0, NONE), 100000);
    due("count(3)", x.count(3), 0);
  }

  private static void noGateAtFirst() {
    CHECK.sentence("at first none is");
    HeapMover x = Worlds.places(10);
    due("count(3)", x.count(3), 0);
    for (int v = 0; v < 10; v++) {
      due("gate(" + v + ", 0)", x.gate(v, 0), NONE);
    }
    due("count(3)", x.count(3), 10);
    x.undo();
    x.undo();
    due("count(3)", x.count(3), 8);
    HeapMover y = Worlds.places(1);
    y.gate(0, 3);
    y.place();
    y.gate(1, 4);
    y.undo();
    y.undo();
    y.place();
    due("gate of a place that went and came", y.gate(1, 5), NONE);
  }

  // ---- plans

  private static void plans() {
    plansOfOneSum();
    plansOfOnePlaceToItself();
    plansAreWholeNumbers();
    plansKeepAmounts();
    costsOfPlans();
    leastOfCosts();
    firstOfPlansAtTheFirstNumber();
    firstOfPlansAtLaterNumbers();
    firstOfTenPlaces();
    firstOfTheCheapest();
    alonePlans();
  }

  private static void plansOfOneSum() {
    CHECK.sentence("A PLAN from HEAP a to HEAP b, of one SUM");
    HeapMover x = Worlds.line(2, 1);
    due("least of two empty heaps", x.least(0, 1), 0);
    Worlds.fill(x, 0, 1000, 1000);
    Worlds.fill(x, 1, 1000, 999);
    due("least, one less", x.least(0, 1), NOT);
    due("least, one more", x.least(1, 0), NOT);
    x.set(1, 1, 1000);
    due("least, as much", x.least(0, 1), 0);
  }

  private static void plansOfOnePlaceToItself() {
    CHECK.sentence("for each two PLACES u, v (also one and the same)");
    HeapMover x = Worlds.line(2, 1);
    Worlds.fill(x, 0, 5, 3);
    Worlds.fill(x, 1, 4, 4);
    duePlan(x, new int[] {4, 1}, new int[] {0, 3});
    HeapMover y = Worlds.places(1);
    y.heap();
    y.set(0, 0, 1000);
    due("plan of one place", y.plan(0, 0, 0, 0), 1000);
  }

  private static void plansAreWholeNumbers() {
    CHECK.sentence("a whole number G(u, v), 0 or above");
    HeapMover x = Worlds.ring(1, 1, 1, 1);
    due("plan of nothing", x.plan(0, 1, 2, 1), 0);
    // A half to each side would cost as much.
    Worlds.fill(x, 0, 1, 0, 1, 0);
    Worlds.fill(x, 1, 0, 1, 0, 1);
    duePlan(x, new int[] {0, 1, 0, 0}, new int[4], new int[] {0, 0, 0, 1}, new int[4]);
  }

  private static void plansKeepAmounts() {
    CHECK.sentence("for each u all G(u, v) together are a's AMOUNT, for each v all G(u, v) b's");
    HeapMover x = Worlds.ring(4, 9, 2, 7, 1);
    int[] have = {1000, 0, 3, 500, 0};
    int[] wanted = {1, 1000, 0, 2, 500};
    Worlds.fill(x, 0, have);
    Worlds.fill(x, 1, wanted);
    for (int u = 0; u < 5; u++) {
      int from = 0;
      int to = 0;
      for (int v = 0; v < 5; v++) {
        from += x.plan(0, 1, u, v);
        to += x.plan(0, 1, v, u);
      }
      due("from " + u, from, have[u]);
      due("to " + u, to, wanted[u]);
    }
  }

  private static void costsOfPlans() {
    CHECK.sentence("Its COST are all G(u, v) times APART(u, v) together");
    HeapMover x = Worlds.line(3, 10);
    Worlds.fill(x, 0, 4, 0, 1);
    Worlds.fill(x, 1, 1, 2, 2);
    due("least, 2 by 10 and 1 by 20", x.least(0, 1), 40);
    Worlds.draft(x, new int[] {0, 2, 2}, new int[] {0, 0, 0}, new int[] {1, 0, 0});
    due("judge", x.judge(0, 1), 3);
    due("beside(), 2 by 10, 2 and 1 by 20, less 40", x.beside(), 40);
  }

  private static void leastOfCosts() {
    CHECK.sentence("LEAST is the least COST of PLANS");
    HeapMover x = Worlds.net(4, new int[] {0, 1, 3}, new int[] {0, 2, 1}, new int[] {1, 3, 100});
    // Place 2 is nearest to 0, but place 3 would then have to be supplied by a longer way.
    Worlds.fill(x, 0, 1, 1, 0, 0);
    Worlds.fill(x, 1, 0, 0, 1, 1);
    due("least", x.least(0, 1), 101);
    x.road(2, 1, 1);
    due("least with a road more", x.least(0, 1), 101);
    x.road(0, 3, 1);
    due("least, the other way round", x.least(0, 1), 2);
    HeapMover y = Worlds.line(10, 1000);
    Worlds.fill(y, 0, 1000, 1000, 1000, 1000, 1000, 0, 0, 0, 0, 0);
    Worlds.fill(y, 1, 0, 0, 0, 0, 0, 1000, 1000, 1000, 1000, 1000);
    due("least of the greatest numbers", y.least(0, 1), 25000000);
  }

  private static void firstOfPlansAtTheFirstNumber() {
    CHECK.sentence("G(0, 0) as great as can be");
    // 0 lies between 1 and 2: its own may stay, or go to 2 while 1's come to 0; both cost the same.
    HeapMover x = Worlds.net(3, new int[] {1, 0, 1}, new int[] {0, 2, 1});
    Worlds.fill(x, 0, 3, 2, 0);
    Worlds.fill(x, 1, 3, 0, 2);
    Worlds.draft(x, new int[] {1, 0, 2}, new int[] {2, 0, 0}, new int[] {0, 0, 0});
    due("judge of the other one", x.judge(0, 1), 0);
    duePlan(x, new int[] {3, 0, 0}, new int[] {0, 0, 2}, new int[] {0, 0, 0});
  }

  private static void firstOfPlansAtLaterNumbers() {
    CHECK.sentence("then G(0, 1) as great as can be with that, and so on");
    HeapMover x = Worlds.ring(1, 1, 1, 1);
    Worlds.fill(x, 0, 3, 0, 2, 0);
    Worlds.fill(x, 1, 0, 4, 0, 1);
    duePlan(x, new int[] {0, 3, 0, 0}, new int[4], new int[] {0, 1, 0, 1}, new int[4]);
    Worlds.fill(x, 1, 0, 1, 0, 4);
    duePlan(x, new int[] {0, 1, 0, 2}, new int[4], new int[] {0, 0, 0, 2}, new int[4]);
    Worlds.fill(x, 0, 0, 2, 0, 3);
    Worlds.fill(x, 1, 4, 0, 1, 0);
    duePlan(x, new int[4], new int[] {2, 0, 0, 0}, new int[4], new int[] {2, 0, 1, 0});
    // What stays at 1 comes behind what comes to it from 0.
    HeapMover y = Worlds.line(4, 1);
    Worlds.fill(y, 0, 2, 2, 2, 0);
    Worlds.fill(y, 1, 0, 2, 2, 2);
    duePlan(y, new int[] {0, 2, 0, 0}, new int[] {0, 0, 2, 0}, new int[] {0, 0, 0, 2}, new int[4]);
    Worlds.fill(y, 0, 0, 2, 2, 2);
    Worlds.fill(y, 1, 2, 2, 2, 0);
    duePlan(y, new int[4], new int[] {2, 0, 0, 0}, new int[] {0, 2, 0, 0}, new int[] {0, 0, 2, 0});
    // Only the last two rows leave a choice.
    HeapMover z = Worlds.net(6, new int[] {0, 1, 9}, new int[] {1, 2, 9}, new int[] {2, 4, 1},
        new int[] {2, 5, 1}, new int[] {3, 4, 1}, new int[] {3, 5, 1});
    Worlds.fill(z, 0, 7, 0, 1, 1, 0, 0);
    Worlds.fill(z, 1, 0, 7, 0, 0, 1, 1);
    duePlan(z, new int[] {0, 7, 0, 0, 0, 0}, new int[6], new int[] {0, 0, 0, 0, 1, 0},
        new int[] {0, 0, 0, 0, 0, 1}, new int[6], new int[6]);
    // From 2, 3, 4 to 0, 1, 2 three plans cost 3; in none of them 2's goes to 0.
    HeapMover t = threeOfThree();
    duePlan(t, new int[5], new int[5], new int[] {0, 1, 0, 0, 0}, new int[] {0, 0, 1, 0, 0},
        new int[] {1, 0, 0, 0, 0});
  }

  private static HeapMover threeOfThree() {
    HeapMover x = Worlds.net(5, new int[] {0, 1, 1}, new int[] {0, 2, 1}, new int[] {0, 3, 1},
        new int[] {0, 4, 1}, new int[] {1, 2, 1}, new int[] {2, 3, 1});
    Worlds.fill(x, 0, 0, 0, 1, 1, 1);
    Worlds.fill(x, 1, 1, 1, 1, 0, 0);
    return x;
  }

  /** Each even place has a road of 1 to each odd one, so that all plans between them cost the same. */
  private static HeapMover evenAndOdd() {
    HeapMover x = Worlds.net(10);
    for (int u = 0; u < 10; u += 2) {
      for (int v = 1; v < 10; v += 2) {
        x.road(u, v, 1);
      }
    }
    Worlds.fill(x, 0, 3, 0, 1000, 0, 5, 0, 1, 0, 600, 0);
    Worlds.fill(x, 1, 0, 1, 0, 4, 0, 1000, 0, 603, 0, 1);
    return x;
  }

  private static void firstOfTenPlaces() {
    CHECK.sentence("of which G(0, 0), G(0, 1), .. G(1, 0), .. in this order are first");
    HeapMover x = evenAndOdd();
    due("least", x.least(0, 1), 1609);
    int[][] want = new int[10][10];
    int[][] wantBack = new int[10][10];
    fillInOrder(x, 0, 1, want);
    fillInOrder(x, 1, 0, wantBack);
    for (int u = 0; u < 10; u++) {
      for (int v = 0; v < 10; v++) {
        due("plan(0, 1, " + u + ", " + v + ")", x.plan(0, 1, u, v), want[u][v]);
        due("plan(1, 0, " + u + ", " + v + ")", x.plan(1, 0, u, v), wantBack[u][v]);
      }
    }
  }

  /** As each number in turn may be as great as the two places let it. */
  private static void fillInOrder(HeapMover x, int a, int b, int[][] plan) {
    int[] wanted = new int[10];
    for (int v = 0; v < 10; v++) {
      wanted[v] = x.amount(b, v);
    }
    for (int u = 0; u < 10; u++) {
      int left = x.amount(a, u);
      for (int v = 0; v < 10; v++) {
        plan[u][v] = Math.min(left, wanted[v]);
        left -= plan[u][v];
        wanted[v] -= plan[u][v];
      }
    }
  }

  private static void firstOfTheCheapest() {
    CHECK.sentence("THE PLAN is the one of COST LEAST");
    // In a line 0, 3, 1, 2: G(0, 2) would come first, but costs more.
    HeapMover x = Worlds.net(4, new int[] {0, 3, 1}, new int[] {3, 1, 1}, new int[] {1, 2, 1});
    Worlds.fill(x, 0, 1, 1, 0, 0);
    Worlds.fill(x, 1, 0, 0, 1, 1);
    duePlan(x, new int[] {0, 0, 0, 1}, new int[] {0, 0, 1, 0}, new int[4], new int[4]);
  }

  private static void alonePlans() {
    CHECK.sentence("It is ALONE, if there is no other PLAN of COST LEAST");
    HeapMover x = Worlds.ring(1, 1, 1, 2);
    due("alone of nothing", x.alone(0, 1), 1);
    Worlds.fill(x, 0, 1, 0, 1, 0);
    Worlds.fill(x, 1, 0, 1, 0, 1);
    due("alone, the other one costs 1 more", x.alone(0, 1), 1);
    x.road(3, 0, 1);
    due("alone, the other one costs as much", x.alone(0, 1), 0);
    Worlds.fill(x, 1, 0, 2, 0, 0);
    due("alone, all to one place", x.alone(0, 1), 1);
    Worlds.fill(x, 0, 2, 0, 0, 0);
    Worlds.fill(x, 1, 0, 0, 2, 0);
    due("alone, two ways but one plan", x.alone(0, 1), 1);
    HeapMover y = Worlds.line(3, 1);
    Worlds.fill(y, 0, 1, 1, 0);
    Worlds.fill(y, 1, 0, 1, 1);
    due("alone, what lies between may stay", y.alone(0, 1), 0);
    HeapMover z = Worlds.net(3, new int[] {1, 0, 1}, new int[] {0, 2, 1});
    Worlds.fill(z, 0, 1, 1, 0);
    Worlds.fill(z, 1, 1, 0, 1);
    due("alone, what lies at 0 may stay", z.alone(0, 1), 0);
    due("alone, one of three", threeOfThree().alone(0, 1), 0);
    HeapMover t = Worlds.net(4, new int[] {0, 1, 1}, new int[] {1, 2, 1}, new int[] {0, 3, 1});
    Worlds.fill(t, 0, 0, 1, 1, 1);
    Worlds.fill(t, 1, 1, 0, 1, 1);
    due("alone, all but one stay", t.alone(0, 1), 1);
    Worlds.fill(t, 0, 0, 2, 0, 1);
    Worlds.fill(t, 1, 2, 0, 1, 0);
    due("alone, each to the next place", t.alone(0, 1), 1);
    due("alone of ten places", evenAndOdd().alone(0, 1), 0);
    due("alone of ten places, one heap", evenAndOdd().alone(0, 0), 1);
  }

  // ---- heights and loads

  private static void heights() {
    heightsNeverAboveApart();
    heightOfTheFirstPlace();
    heightsProve();
    heightsAsGreatAsInAny();
    loads();
    loadsOfPlacesWithARoad();
  }

  /** Goods go from 0 to 2 and to 3, and from 4 to 1. */
  private static HeapMover crossing() {
    HeapMover x = Worlds.ring(4, 9, 2, 7, 1);
    Worlds.fill(x, 0, 6, 0, 0, 0, 2);
    Worlds.fill(x, 1, 0, 2, 5, 1, 0);
    return x;
  }

  private static void heightsNeverAboveApart() {
    CHECK.sentence("H(u) - H(v) never above APART(u, v)");
    HeapMover x = crossing();
    for (int u = 0; u < 5; u++) {
      for (int v = 0; v < 5; v++) {
        int above = x.height(0, 1, u) - x.height(0, 1, v) - x.apart(u, v);
        due("above, of " + u + " and " + v, Math.max(0, above), 0);
      }
    }
    // Nothing is moved: each height is held by that bound alone.
    HeapMover y = Worlds.ring(4, 9, 2, 7, 1);
    dueHeights(y, 0, 4, 10, 8, 1);
  }

  private static void heightOfTheFirstPlace() {
    CHECK.sentence("H(0) being 0");
    HeapMover x = Worlds.line(3, 1000);
    due("height of nothing", x.height(0, 1, 0), 0);
    Worlds.fill(x, 0, 1000, 0, 0);
    Worlds.fill(x, 1, 0, 0, 1000);
    due("height, all go away", x.height(0, 1, 0), 0);
    due("height, all come", x.height(1, 0, 0), 0);
    due("height of one place", oneHeap().height(0, 0, 0), 0);
  }

  private static HeapMover oneHeap() {
    HeapMover x = Worlds.places(1);
    x.heap();
    return x;
  }

  private static void heightsProve() {
    CHECK.sentence("They PROVE, if the sum of H(v) times (a's less b's AMOUNT at v) is LEAST");
    HeapMover x = crossing();
    for (int turn = 0; turn < 2; turn++) {
      int a = turn;
      int b = 1 - turn;
      int sum = 0;
      for (int v = 0; v < 5; v++) {
        sum += x.height(a, b, v) * (x.amount(a, v) - x.amount(b, v));
      }
      due("sum from " + a, sum, x.least(a, b));
    }
  }

  private static void heightsAsGreatAsInAny() {
    CHECK.sentence("THE HEIGHTS are those that PROVE of which each single one is as great as in any that PROVE");
    HeapMover x = Worlds.net(4, new int[] {0, 1, 5}, new int[] {1, 2, 5}, new int[] {1, 3, 7});
    Worlds.fill(x, 0, 1, 0, 0, 0);
    Worlds.fill(x, 1, 0, 0, 1, 0);
    dueHeights(x, 0, -5, -10, 2);
    Worlds.fill(x, 0, 0, 0, 1, 0);
    Worlds.fill(x, 1, 1, 0, 0, 0);
    dueHeights(x, 0, 5, 10, 12);
    Worlds.fill(x, 0, 0, 0, 1, 0);
    Worlds.fill(x, 1, 0, 0, 0, 1);
    dueHeights(x, 0, 5, 10, -2);
    // Trees: along each road that goods go, the heights fall by its length.
    HeapMover y = Worlds.net(5, new int[] {0, 1, 2}, new int[] {1, 2, 3}, new int[] {1, 3, 3}, new int[] {0, 4, 1});
    Worlds.fill(y, 0, 1, 1, 0, 0, 1);
    Worlds.fill(y, 1, 1, 0, 1, 1, 0);
    dueHeights(y, 0, -2, -5, -5, 1);
    HeapMover z = Worlds.net(5, new int[] {0, 1, 2}, new int[] {0, 2, 1}, new int[] {2, 3, 2}, new int[] {1, 4, 2});
    Worlds.fill(z, 0, 0, 0, 1, 1, 1);
    Worlds.fill(z, 1, 0, 0, 0, 3, 0);
    dueHeights(z, 0, 2, -1, -3, 4);
  }

  private static void loads() {
    CHECK.sentence("the G(u', v') of THE PLAN together whose WAY goes from u to w next");
    HeapMover x = Worlds.line(5, 1);
    Worlds.fill(x, 0, 3, 2, 0, 0, 1);
    Worlds.fill(x, 1, 0, 0, 1, 5, 0);
    due("load(0, 1), the first alone", x.load(0, 1, 0, 1), 3);
    due("load(1, 2), two together", x.load(0, 1, 1, 2), 5);
    due("load(2, 3), one stays at 2", x.load(0, 1, 2, 3), 4);
    due("load(3, 4), behind the end", x.load(0, 1, 3, 4), 0);
    due("load(4, 3), from the other side", x.load(0, 1, 4, 3), 1);
    due("load(2, 1), against it", x.load(0, 1, 2, 1), 0);
    Worlds.fill(x, 1, 3, 2, 0, 0, 1);
    due("load where all stays", x.load(0, 1, 0, 1), 0);
    // Two ways of one length: all goes by the least place.
    HeapMover y = Worlds.ring(1, 1, 1, 1);
    Worlds.fill(y, 0, 1000, 0, 0, 0);
    Worlds.fill(y, 1, 0, 0, 1000, 0);
    due("load(0, 1)", y.load(0, 1, 0, 1), 1000);
    due("load(0, 3)", y.load(0, 1, 0, 3), 0);
  }

  private static void loadsOfPlacesWithARoad() {
    CHECK.sentence("LOAD of u to w (two PLACES with a ROAD)");
    HeapMover x = Worlds.line(3, 1);
    Worlds.fill(x, 0, 4, 0, 0);
    Worlds.fill(x, 1, 0, 0, 4);
    due("load(0, 2), no road", x.load(0, 1, 0, 2), 0);
    due("load(1, 1), one place", x.load(0, 1, 1, 1), 0);
    x.road(0, 1, 1);
    due("load(0, 1), two roads alike", x.load(0, 1, 0, 1), 4);
    x.road(0, 2, 3);
    due("load(0, 2), a road on no way", x.load(0, 1, 0, 2), 0);
  }

  // ---- how far

  private static void distances() {
    farIsTheLeast();
    farOfPlansThatAreDear();
    shortOfPlacesLessThanFar();
    shownIsTheLeastSet();
    shownIsTheGreatestShort();
    noneIsShown();
  }

  /** The cheapest plan takes one good by 10; by 6 and 6 none goes farther than 6. */
  private static HeapMover triangle() {
    HeapMover x = Worlds.net(3, new int[] {0, 1, 6}, new int[] {0, 2, 6}, new int[] {1, 2, 10});
    Worlds.fill(x, 0, 1, 1, 0);
    Worlds.fill(x, 1, 1, 0, 1);
    return x;
  }

  private static void farIsTheLeast() {
    CHECK.sentence("FAR from a to b is the least number f for which there is a PLAN"
        + " with G(u, v) 0 wherever APART(u, v) is above f");
    HeapMover x = Worlds.line(4, 3);
    due("far of nothing", x.far(0, 1), 0);
    Worlds.fill(x, 0, 2, 0, 0, 0);
    Worlds.fill(x, 1, 2, 0, 0, 0);
    due("far where all stays", x.far(0, 1), 0);
    Worlds.fill(x, 1, 1, 1, 0, 0);
    due("far, the next place", x.far(0, 1), 3);
    Worlds.fill(x, 1, 1, 0, 0, 1);
    due("far, the last place", x.far(0, 1), 9);
    Worlds.fill(x, 0, 1, 0, 1, 0);
    due("far, the last place from nearer", x.far(0, 1), 3);
    HeapMover y = Worlds.line(10, 1000);
    Worlds.fill(y, 0, 1);
    y.set(1, 9, 1);
    due("far, the farthest", y.far(0, 1), 9000);
    Worlds.fill(y, 0, 1, 1, 1, 1, 1, 1, 1, 1, 1, 1000);
    Worlds.fill(y, 1, 1000, 1, 1, 1, 1, 1, 1, 1, 1, 1);
    due("far, the farthest of all pairs", y.far(0, 1), 9000);
    HeapMover z = doubling();
    due("far, of distances that all differ", z.far(0, 1), 256);
  }

  /** A line of lengths 1, 2, 4, .. 256, one at each place and wanted there, but for one from 0 that 9 wants. */
  private static HeapMover doubling() {
    int[][] roads = new int[9][];
    for (int v = 0; v < 9; v++) {
      roads[v] = new int[] {v, v + 1, 1 << v};
    }
    HeapMover x = Worlds.net(10, roads);
    Worlds.fill(x, 0, 2, 1, 1, 1, 1, 1, 1, 1, 1, 1);
    Worlds.fill(x, 1, 1, 1, 1, 1, 1, 1, 1, 1, 1, 2);
    return x;
  }

  private static void farOfPlansThatAreDear() {
    CHECK.sentence("there is a PLAN", "also one that costs more than LEAST");
    HeapMover x = triangle();
    due("least", x.least(0, 1), 10);
    due("far", x.far(0, 1), 6);
  }

  private static void shortOfPlacesLessThanFar() {
    CHECK.sentence("b's AMOUNTS of all PLACES v that are less than f APART from some u of the set");
    // Far is 6. At 1 there is one good, and less than 6 from it nothing is wanted; at just 6 it is.
    dueShown(triangle(), 0, 1, 0);
    HeapMover x = Worlds.line(4, 1);
    Worlds.fill(x, 0, 1, 2, 0, 0);
    Worlds.fill(x, 1, 0, 1, 1, 1);
    due("far", x.far(0, 1), 2);
    // Of 1 alone short is 2 - 2, with 0 it is 3 - 2.
    dueShown(x, 1, 1, 0, 0);
  }

  private static void shownIsTheLeastSet() {
    CHECK.sentence("SHOWN are the PLACES of the least set (it lies in each other one)");
    HeapMover x = Worlds.line(4, 1);
    Worlds.fill(x, 0, 2, 1, 0, 0);
    Worlds.fill(x, 1, 0, 1, 1, 1);
    due("far", x.far(0, 1), 2);
    // Of 0 alone short is 2 - 1, with 1 it is 3 - 2.
    dueShown(x, 1, 0, 0, 0);
  }

  private static void shownIsTheGreatestShort() {
    CHECK.sentence("with the greatest SHORT");
    HeapMover x = Worlds.line(5, 1);
    Worlds.fill(x, 0, 1, 0, 0, 0, 1);
    Worlds.fill(x, 1, 0, 1, 0, 1, 0);
    dueShown(x, 1, 0, 0, 0, 1);
    Worlds.fill(x, 0, 3, 0, 0, 0, 1);
    Worlds.fill(x, 1, 0, 0, 0, 1, 3);
    due("far", x.far(0, 1), 4);
    // Less than 4 from 0 just one is wanted; 4 has enough near it.
    dueShown(x, 1, 0, 0, 0, 0);
    // Less than 256 from each of them are just all but the last, where 9 are wanted for 10.
    dueShown(doubling(), 1, 1, 1, 1, 1, 1, 1, 1, 1, 0);
  }

  private static void noneIsShown() {
    CHECK.sentence("Else none is");
    HeapMover x = Worlds.line(3, 1);
    dueShown(x, 0, 0, 0);
    Worlds.fill(x, 0, 1000, 1, 0);
    Worlds.fill(x, 1, 1000, 1, 0);
    due("far", x.far(0, 1), 0);
    dueShown(x, 0, 0, 0);
    x.set(0, 1, 0);
    x.set(0, 2, 1);
    dueShown(x, 0, 0, 1);
    x.undo();
    x.undo();
    dueShown(x, 0, 0, 0);
  }

  // ---- part of the goods, and gates

  private static void partsAndGates() {
    someUpToTheLesserSum();
    sumsNeedNotBeOne();
    someAtMostTheAmounts();
    gatedOfOneSum();
    gatedAsMuchAsIsWished();
    gatedLeavesWhatIsWanted();
    gatesLetThroughTheirBound();
    gatesCountWhatLeavesAlone();
    gatedIsTheLeast();
  }

  private static void someUpToTheLesserSum() {
    CHECK.sentence("SOME m (0 .. the lesser SUM");
    HeapMover x = Worlds.line(2, 5);
    due("some 0 of nothing", x.some(0, 1, 0), 0);
    due("some 1 of nothing", x.some(0, 1, 1), OUTSIDE);
    x.set(0, 0, 3);
    due("some 1, nothing is wanted", x.some(0, 1, 1), OUTSIDE);
    x.set(1, 1, 1000);
    due("some -1", x.some(0, 1, -1), OUTSIDE);
    due("some 0", x.some(0, 1, 0), 0);
    due("some 3", x.some(0, 1, 3), 15);
    due("some 4", x.some(0, 1, 4), OUTSIDE);
    due("some 3 back", x.some(1, 0, 3), 15);
    due("some 4 back", x.some(1, 0, 4), OUTSIDE);
    due("some of the least int", x.some(0, 1, Integer.MIN_VALUE), OUTSIDE);
    due("some of the greatest int", x.some(0, 1, Integer.MAX_VALUE), OUTSIDE);
  }

  private static void sumsNeedNotBeOne() {
    CHECK.sentence("the SUMS need not be one");
    HeapMover x = Worlds.line(2, 5);
    Worlds.fill(x, 0, 2, 0);
    Worlds.fill(x, 1, 0, 3);
    due("some 2", x.some(0, 1, 2), 10);
    due("some 2 back", x.some(1, 0, 2), 10);
    due("least", x.least(0, 1), NOT);
    x.set(0, 0, 3);
    due("some of all is least", x.some(0, 1, 3), x.least(0, 1));
  }

  private static void someAtMostTheAmounts() {
    CHECK.sentence("together m, for each u at most a's AMOUNT together, for each v at most b's");
    HeapMover x = Worlds.line(3, 1);
    Worlds.fill(x, 0, 2, 0, 2);
    Worlds.fill(x, 1, 1, 2, 0);
    due("some 1, what lies there", x.some(0, 1, 1), 0);
    due("some 2, one to the next place", x.some(0, 1, 2), 1);
    due("some 3, not more than are wanted", x.some(0, 1, 3), 2);
    Worlds.fill(x, 0, 1, 0, 1000);
    Worlds.fill(x, 1, 0, 3, 0);
    due("some 3, not more than lie there", x.some(0, 1, 3), 3);
    Worlds.fill(x, 1, 3, 0, 0);
    due("some 3, one stays and two come", x.some(0, 1, 3), 4);
    Worlds.fill(x, 0, 5, 0, 0);
    Worlds.fill(x, 1, 0, 2, 3);
    int[] want = {0, 1, 2, 4, 6, 8};
    for (int m = 0; m < want.length; m++) {
      due("some " + m + ", not more than asked for", x.some(0, 1, m), want[m]);
    }
  }

  private static void gatedOfOneSum() {
    CHECK.sentence("GATED from a to b, of one SUM");
    HeapMover x = Worlds.line(2, 1);
    due("gated of nothing", x.gated(0, 1), 0);
    x.set(0, 0, 1);
    due("gated, one more", x.gated(0, 1), NOT);
    due("gated, one less", x.gated(1, 0), NOT);
    x.set(1, 1, 1);
    due("gated, as much", x.gated(0, 1), 1);
  }

  private static void gatedAsMuchAsIsWished() {
    CHECK.sentence("goods go along ROADS, each as much as is wished, each way");
    HeapMover x = Worlds.line(10, 1000);
    Worlds.fill(x, 0, 1000, 1000, 1000, 1000, 1000, 0, 0, 0, 0, 0);
    Worlds.fill(x, 1, 0, 0, 0, 0, 0, 1000, 1000, 1000, 1000, 1000);
    due("gated forth", x.gated(0, 1), 25000000);
    due("gated back", x.gated(1, 0), 25000000);
  }

  private static void gatedLeavesWhatIsWanted() {
    CHECK.sentence("with what comes to it by ROADS and lies there, so that b is left");
    HeapMover x = Worlds.line(3, 1);
    Worlds.fill(x, 0, 5, 1, 0);
    Worlds.fill(x, 1, 2, 3, 1);
    due("gated, 3 leave 0 and 1 goes on", x.gated(0, 1), 4);
    for (int v = 0; v < 3; v++) {
      x.gate(v, 0);
    }
    due("gated, all is there", x.gated(0, 0), 0);
    due("gated, none can leave", x.gated(0, 1), NONE);
  }

  private static void gatesLetThroughTheirBound() {
    CHECK.sentence("of a GATE what leaves it by ROADS is its BOUND at most");
    HeapMover x = Worlds.line(3, 1);
    Worlds.fill(x, 0, 3, 0, 0);
    Worlds.fill(x, 1, 0, 0, 3);
    x.gate(0, 3);
    due("gated, its own goods, just so much", x.gated(0, 1), 6);
    x.gate(0, 2);
    due("gated, its own goods, one too much", x.gated(0, 1), NONE);
    x.gate(0, NONE);
    x.gate(1, 3);
    due("gated, goods on their way, just so much", x.gated(0, 1), 6);
    x.gate(1, 2);
    due("gated, goods on their way, one too much", x.gated(0, 1), NONE);
    x.gate(1, 0);
    due("gated, it lets nothing through", x.gated(0, 1), NONE);
    x.gate(1, 100000);
    due("gated, the greatest bound", x.gated(0, 1), 6);
    x.gate(1, NONE);
    due("gated, no gate any more", x.gated(0, 1), 6);
  }

  private static void gatesCountWhatLeavesAlone() {
    CHECK.sentence("what leaves it by ROADS", "not what comes or stays");
    HeapMover x = Worlds.line(3, 1);
    Worlds.fill(x, 0, 3, 2, 0);
    Worlds.fill(x, 1, 0, 5, 0);
    x.gate(1, 0);
    x.gate(2, 0);
    due("gated, what comes is not counted", x.gated(0, 1), 3);
    Worlds.fill(x, 1, 0, 2, 3);
    due("gated, what lies at the gate is no change for it", x.gated(0, 1), NONE);
    x.gate(1, 3);
    due("gated, what stays is not counted", x.gated(0, 1), 6);
    x.gate(1, 2);
    due("gated, one too much", x.gated(0, 1), NONE);
  }

  private static void gatedIsTheLeast() {
    CHECK.sentence("GATED is the least sum of LENGTHS times what goes, of all such ways");
    HeapMover x = Worlds.net(3, new int[] {0, 1, 1}, new int[] {1, 2, 1}, new int[] {0, 2, 10});
    Worlds.fill(x, 0, 4, 0, 0);
    Worlds.fill(x, 1, 0, 0, 4);
    due("gated without gates", x.gated(0, 1), 8);
    int[] want = {40, 32, 24, 16, 8, 8};
    for (int bound = 0; bound < want.length; bound++) {
      x.gate(1, bound);
      due("gated, bound " + bound, x.gated(0, 1), want[bound]);
    }
    x.road(0, 2, 9);
    x.gate(1, 0);
    due("gated by the shorter of two roads", x.gated(0, 1), 36);
  }

  // ---- plans that are told

  private static void drafts() {
    draftZeroAtFirst();
    draftZeroToTenThousand();
    judgedFrom();
    judgedTo();
    judgedDear();
    judgedAsCheapest();
    judgedByTheFirstOfThese();
    toldBeside();
  }

  private static void draftZeroAtFirst() {
    CHECK.sentence("THE DRAFT tells numbers for two PLACES (0 at first");
    HeapMover x = Worlds.places(10);
    for (int u = 0; u < 10; u++) {
      for (int v = 0; v < 10; v++) {
        due("draft(" + u + ", " + v + ", 1)", x.draft(u, v, 1), 0);
      }
    }
    due("clear()", x.clear(), 100);
  }

  private static void draftZeroToTenThousand() {
    CHECK.sentence("0 .. 10000 each)");
    HeapMover x = Worlds.places(2);
    due("draft 10000", x.draft(1, 0, 10000), 0);
    due("draft 10001", x.draft(1, 0, 10001), OUTSIDE);
    due("draft -1", x.draft(1, 0, -1), OUTSIDE);
    due("draft the least int", x.draft(1, 0, Integer.MIN_VALUE), OUTSIDE);
    due("draft the greatest int", x.draft(1, 0, Integer.MAX_VALUE), OUTSIDE);
    due("draft 0", x.draft(1, 0, 0), 10000);
    due("draft 0 again", x.draft(1, 0, 0), 0);
  }

  /** 2 and 1 lie at 0 and 1, 1 is wanted at each of three places 2 apart. */
  private static HeapMover judged() {
    HeapMover x = Worlds.line(3, 2);
    Worlds.fill(x, 0, 2, 1, 0);
    Worlds.fill(x, 1, 1, 1, 1);
    return x;
  }

  private static void judgedFrom() {
    CHECK.sentence("1 FROM: of some u its numbers together are not a's AMOUNT");
    HeapMover x = judged();
    due("judge of an empty draft", x.judge(0, 1), 1);
    Worlds.draft(x, new int[] {1, 0, 1}, new int[] {0, 1, 0}, new int[] {0, 0, 1});
    due("judge, one too many from the last place", x.judge(0, 1), 1);
    due("beside()", x.beside(), 2);
    Worlds.draft(x, new int[] {1, 0, 1}, new int[] {0, 0, 0}, new int[] {0, 0, 0});
    due("judge, one too few from 1", x.judge(0, 1), 1);
    due("beside()", x.beside(), 1);
    Worlds.draft(x, new int[] {10000, 10000, 10000}, new int[] {0, 1, 0});
    due("judge, far too many from 0", x.judge(0, 1), 1);
    due("beside()", x.beside(), 0);
  }

  private static void judgedTo() {
    CHECK.sentence("2 TO: of some v they are not b's");
    HeapMover x = judged();
    Worlds.draft(x, new int[] {1, 1, 0}, new int[] {0, 1, 0}, new int[] {0, 0, 0});
    due("judge, one too many to 1", x.judge(0, 1), 2);
    due("beside()", x.beside(), 1);
    Worlds.draft(x, new int[] {0, 1, 1}, new int[] {0, 0, 1}, new int[] {0, 0, 0});
    due("judge, one too few to 0", x.judge(0, 1), 2);
    due("beside()", x.beside(), 0);
    HeapMover y = Worlds.line(3, 2);
    Worlds.fill(y, 0, 2, 0, 0);
    Worlds.fill(y, 1, 0, 1, 1);
    Worlds.draft(y, new int[] {0, 1, 1});
    due("judge, all is right", y.judge(0, 1), 0);
    y.set(1, 2, 0);
    y.set(1, 1, 2);
    due("judge, the first wrong one is 1", y.judge(0, 1), 2);
    due("beside()", y.beside(), 1);
  }

  private static void judgedDear() {
    CHECK.sentence("3 DEAR: it costs more than LEAST");
    HeapMover x = Worlds.ring(1, 1, 1, 2);
    Worlds.fill(x, 0, 1, 0, 1, 0);
    Worlds.fill(x, 1, 0, 1, 0, 1);
    Worlds.draft(x, new int[] {0, 0, 0, 1}, new int[4], new int[] {0, 1, 0, 0});
    due("judge, one more than least", x.judge(0, 1), 3);
    due("beside()", x.beside(), 1);
    x.road(3, 0, 1);
    due("judge, as least", x.judge(0, 1), 0);
    x.undo();
    due("judge, one more again", x.judge(0, 1), 3);
  }

  private static void judgedAsCheapest() {
    CHECK.sentence("0: it is one of COST LEAST");
    HeapMover x = judged();
    x.copy(0, 1);
    due("judge of the plan", x.judge(0, 1), 0);
    due("beside()", x.beside(), 0);
    Worlds.draft(x, new int[] {1, 0, 1}, new int[] {0, 1, 0}, new int[] {0, 0, 0});
    due("judge of the other one", x.judge(0, 1), 0);
    due("beside()", x.beside(), 0);
    due("judge of an empty draft of empty heaps", Worlds.line(2, 1).judge(0, 1), 0);
  }

  private static void judgedByTheFirstOfThese() {
    CHECK.sentence("JUDGED as a PLAN from a to b: the first of these");
    HeapMover x = judged();
    // Wrong from 2 and to 0, and dear.
    Worlds.draft(x, new int[] {0, 1, 1}, new int[] {0, 0, 1}, new int[] {0, 1, 0});
    due("judge, from before to", x.judge(0, 1), 1);
    due("beside()", x.beside(), 2);
    // Wrong to 0, and dear.
    Worlds.draft(x, new int[] {0, 0, 2}, new int[] {1, 0, 0}, new int[] {0, 0, 0});
    due("judge, to before dear", x.judge(0, 1), 2);
    due("beside()", x.beside(), 1);
    Worlds.draft(x, new int[] {0, 1, 1}, new int[] {1, 0, 0}, new int[] {0, 0, 0});
    due("judge, dear", x.judge(0, 1), 3);
    due("beside()", x.beside(), 4);
  }

  private static void toldBeside() {
    CHECK.sentence("Told beside it: the least such u, v; how much more; 0");
    HeapMover x = judged();
    Worlds.draft(x, new int[] {1, 1, 0}, new int[] {0, 0, 0}, new int[] {0, 0, 9});
    due("judge, wrong from 1 and 2", x.judge(0, 1), 1);
    due("beside()", x.beside(), 1);
    Worlds.draft(x, new int[] {1, 0, 1}, new int[] {0, 0, 1}, new int[] {0, 0, 0});
    due("judge, wrong to 1 and 2", x.judge(0, 1), 2);
    due("beside()", x.beside(), 1);
    HeapMover y = Worlds.line(10, 1000);
    Worlds.fill(y, 0, 1000, 1000, 1000, 1000, 1000, 1000, 1000, 1000, 1000, 1000);
    for (int v = 0; v < 10; v++) {
      y.draft(v, 9 - v, 1000);
    }
    due("judge, all across", y.judge(0, 0), 3);
    due("beside(), the greatest one", y.beside(), 50000000);
    for (int v = 0; v < 10; v++) {
      y.draft(v, 9 - v, 0);
      y.draft(v, v, 1000);
    }
    due("judge, all stays", y.judge(0, 0), 0);
    due("beside()", y.beside(), 0);
  }

  // ---- changes

  private static void changes() {
    undoOfEachKind();
    undoNotOfRefusedCalls();
    undoNotOfOtherCalls();
    undoOfThirtyAtMost();
    undoOfThirtyOfAllKinds();
    undoLastOneFirst();
    undoOfAPlaceAndTheDraft();
  }

  private static void undoOfEachKind() {
    CHECK.sentence("is taken back (a HEAP, ROAD, PLACE is there no more; an AMOUNT, BOUND is as it was)");
    HeapMover x = Worlds.line(2, 4);
    int before = x.count(4);
    x.place();
    due("undo() of place()", x.undo(), before);
    due("count(0)", x.count(0), 2);
    due("apart(2, 2)", x.apart(2, 2), UNKNOWN);
    x.road(0, 1, 1);
    due("undo() of road()", x.undo(), before);
    due("count(1)", x.count(1), 1);
    due("apart(0, 1)", x.apart(0, 1), 4);
    x.heap();
    due("undo() of heap()", x.undo(), before);
    due("count(2)", x.count(2), 2);
    due("sum(2)", x.sum(2), UNKNOWN);
    x.set(1, 1, 6);
    x.set(1, 1, 1000);
    due("undo() of set()", x.undo(), before + 1);
    due("amount(1, 1)", x.amount(1, 1), 6);
    x.gate(1, 5);
    x.gate(1, NONE);
    due("undo() of gate()", x.undo(), before + 2);
    due("count(3)", x.count(3), 1);
    due("undo() of gate()", x.undo(), before + 1);
    due("gate(1, 0)", x.gate(1, 0), NONE);
  }

  private static void undoNotOfRefusedCalls() {
    CHECK.sentence("that was not refused");
    HeapMover x = Worlds.line(2, 4);
    x.set(1, 1, 6);
    int before = x.count(4);
    x.road(0, 0, 1);
    x.road(0, 2, 1);
    x.set(1, 1, 1001);
    x.set(2, 1, 0);
    x.gate(0, -2);
    x.gate(2, 0);
    due("count(4)", x.count(4), before);
    due("undo()", x.undo(), before - 1);
    due("amount(1, 1)", x.amount(1, 1), 0);
    HeapMover full = Worlds.places(10);
    full.place();
    due("undo() behind a place that was refused", full.undo(), 9);
    due("count(0)", full.count(0), 9);
    HeapMover heaps = Worlds.heaps(8);
    heaps.heap();
    due("undo() behind a heap that was refused", heaps.undo(), 7);
    due("count(2)", heaps.count(2), 7);
  }

  private static void undoNotOfOtherCalls() {
    CHECK.sentence("the latest of place(), road(), heap(), set(), gate()", "and of no other call");
    HeapMover x = Worlds.line(2, 4);
    int before = x.count(4);
    x.draft(1, 0, 5);
    due("judge()", x.judge(0, 1), 1);
    x.least(0, 1);
    due("count(4)", x.count(4), before);
    due("undo()", x.undo(), before - 1);
    due("count(2)", x.count(2), 1);
    due("draft() stays", x.draft(1, 0, 6), 5);
    due("beside() stays", x.beside(), 1);
    x.copy(0, 0);
    x.clear();
    due("count(4)", x.count(4), before - 1);
    x.set(0, 0, 7);
    x.set(0, 0, 7);
    due("set() to what it was is one, too", x.count(4), before + 1);
    due("undo()", x.undo(), before);
    due("amount(0, 0)", x.amount(0, 0), 7);
  }

  private static void undoOfThirtyAtMost() {
    CHECK.sentence("30 of them at most");
    HeapMover x = Worlds.places(1);
    for (int bound = 0; bound < 29; bound++) {
      x.gate(0, bound);
    }
    due("count(4), just thirty", x.count(4), 30);
    x.gate(0, 29);
    due("count(4), one is forgotten", x.count(4), 30);
    for (int left = 29; left >= 0; left--) {
      due("undo()", x.undo(), left);
    }
    due("undo(), the thirty-first", x.undo(), NOT);
    due("count(3), all gates are taken back", x.count(3), 0);
    due("count(0), the place is not", x.count(0), 1);
    HeapMover y = Worlds.places(1);
    for (int bound = 0; bound < 29; bound++) {
      y.gate(0, bound);
    }
    for (int left = 29; left >= 0; left--) {
      due("undo() of just thirty", y.undo(), left);
    }
    due("count(0), nothing is left", y.count(0), 0);
  }

  private static void undoOfThirtyOfAllKinds() {
    CHECK.sentence("30 of them at most", "of whatever kind");
    HeapMover x = Worlds.places(10);
    for (int heap = 0; heap < 8; heap++) {
      x.heap();
    }
    for (int road = 0; road < 13; road++) {
      x.road(road % 9, 9, 10 + road);
    }
    due("count(4) of thirty-one", x.count(4), 30);
    for (int left = 29; left >= 0; left--) {
      due("undo()", x.undo(), left);
    }
    due("undo(), the thirty-first", x.undo(), NOT);
    int[] want = {1, 0, 0, 0, 0, 1};
    for (int what = 0; what < want.length; what++) {
      due("count(" + what + ")", x.count(what), want[what]);
    }
    due("place()", x.place(), 1);
    due("apart(0, 1), no road came back", x.apart(0, 1), NONE);
  }

  private static void undoLastOneFirst() {
    CHECK.sentence("the last one first");
    HeapMover x = Worlds.line(2, 1);
    x.set(0, 0, 1);
    x.set(0, 1, 2);
    x.set(0, 0, 3);
    x.undo();
    due("amount(0, 0)", x.amount(0, 0), 1);
    due("amount(0, 1)", x.amount(0, 1), 2);
    x.set(1, 0, 9);
    x.undo();
    x.undo();
    due("amount(1, 0)", x.amount(1, 0), 0);
    due("amount(0, 1)", x.amount(0, 1), 0);
    due("amount(0, 0)", x.amount(0, 0), 1);
    // Forth and back, many times more than can be kept.
    for (int turn = 0; turn < 70; turn++) {
      x.gate(0, 1);
      x.gate(0, 2);
      x.undo();
    }
    due("gate, as the last undo() left it", x.gate(0, 3), 1);
    for (int turn = 0; turn < 30; turn++) {
      x.undo();
    }
    due("count(4)", x.count(4), 0);
    due("gate, as thirty changes before", x.gate(0, 0), 1);
  }

  private static void undoOfAPlaceAndTheDraft() {
    CHECK.sentence("THE DRAFT's numbers of a PLACE that goes are 0");
    HeapMover x = Worlds.places(10);
    for (int u = 0; u < 10; u++) {
      for (int v = 0; v < 10; v++) {
        x.draft(u, v, 1 + 10 * u + v);
      }
    }
    x.undo();
    x.place();
    for (int v = 0; v < 10; v++) {
      due("draft(9, " + v + ")", x.draft(9, v, 0), 0);
      due("draft(" + v + ", 9)", x.draft(v, 9, 0), 0);
    }
    for (int v = 0; v < 9; v++) {
      due("draft(8, " + v + ") stays", x.draft(8, v, 0), 81 + v);
    }
    x.undo();
    x.undo();
    due("clear(), 8 places are left", x.clear(), 64);
  }
}

import java.util.ArrayList;
import java.util.Arrays;
import java.util.HashMap;
import java.util.List;
import java.util.Map;
import java.util.PriorityQueue;
import java.util.Random;

/** Small worlds, in which every answer is found from the document's words by going through all there is. */
public final class SmallWorldsTest {
  private static final Check CHECK = new Check("SmallWorldsTest");

  private final int places;
  private final int[][] direct;
  private final int[][] apart;
  private final int[] bounds;
  private final int[] have;
  private final int[] wanted;
  private final HeapMover mover = new HeapMover();

  /** All plans that move m in all; the whole ones if m is both sums. */
  private List<int[][]> plans;

  public static void main(String[] args) {
    Random random = new Random(20261116L);
    for (int world = 0; world < 3000; world++) {
      new SmallWorldsTest(random, true).compare();
    }
    for (int world = 0; world < 1000; world++) {
      new SmallWorldsTest(random, false).compareSome();
    }
    CHECK.end();
  }

  private SmallWorldsTest(Random random, boolean oneSum) {
    places = 1 + random.nextInt(4);
    direct = new int[places][places];
    apart = new int[places][places];
    bounds = new int[places];
    have = new int[places];
    wanted = new int[places];
    for (int v = 0; v < places; v++) {
      mover.place();
    }
    int longest = 1 + random.nextInt(3);
    for (int v = 1; v < places; v++) {
      road(random.nextInt(v), v, 1 + random.nextInt(longest));
    }
    for (int extra = random.nextInt(4); extra > 0 && places > 1; extra--) {
      int u = random.nextInt(places);
      int v = (u + 1 + random.nextInt(places - 1)) % places;
      road(u, v, 1 + random.nextInt(longest));
    }
    measure();
    heaps(random, oneSum);
    for (int v = 0; v < places; v++) {
      bounds[v] = random.nextInt(3) == 0 ? random.nextInt(4) : -1;
      mover.gate(v, bounds[v]);
    }
  }

  private void heaps(Random random, boolean oneSum) {
    mover.heap();
    mover.heap();
    int sum = random.nextInt(5);
    for (int unit = 0; unit < sum; unit++) {
      have[random.nextInt(places)]++;
    }
    int other = oneSum ? sum : random.nextInt(5);
    for (int unit = 0; unit < other; unit++) {
      wanted[random.nextInt(places)]++;
    }
    for (int v = 0; v < places; v++) {
      mover.set(0, v, have[v]);
      mover.set(1, v, wanted[v]);
    }
  }

  private void road(int u, int v, int length) {
    mover.road(u, v, length);
    if (direct[u][v] == 0 || direct[u][v] > length) {
      direct[u][v] = length;
      direct[v][u] = length;
    }
  }

  /** The least over all ways that visit no place twice. */
  private void measure() {
    for (int u = 0; u < places; u++) {
      Arrays.fill(apart[u], Integer.MAX_VALUE);
      walk(u, u, 0, 1 << u);
    }
  }

  private void walk(int start, int at, int gone, int visited) {
    apart[start][at] = Math.min(apart[start][at], gone);
    for (int w = 0; w < places; w++) {
      if (direct[at][w] > 0 && (visited >> w & 1) == 0) {
        walk(start, w, gone + direct[at][w], visited | 1 << w);
      }
    }
  }

  private void findPlans(int m) {
    plans = new ArrayList<>();
    extend(new int[places][places], 0, m);
  }

  /** Numbers are tried from the greatest down, so that the plans come in the document's order. */
  private void extend(int[][] plan, int cell, int left) {
    if (cell == places * places) {
      if (left == 0) {
        int[][] copy = new int[places][];
        for (int u = 0; u < places; u++) {
          copy[u] = plan[u].clone();
        }
        plans.add(copy);
      }
      return;
    }
    int u = cell / places;
    int v = cell % places;
    int most = Math.min(left, Math.min(have[u] - row(plan, u), wanted[v] - column(plan, v)));
    for (int n = most; n >= 0; n--) {
      plan[u][v] = n;
      extend(plan, cell + 1, left - n);
    }
    plan[u][v] = 0;
  }

  private int row(int[][] plan, int u) {
    return Arrays.stream(plan[u]).sum();
  }

  private int column(int[][] plan, int v) {
    int sum = 0;
    for (int u = 0; u < places; u++) {
      sum += plan[u][v];
    }
    return sum;
  }

  private int cost(int[][] plan) {
    int cost = 0;
    for (int u = 0; u < places; u++) {
      for (int v = 0; v < places; v++) {
        cost += plan[u][v] * apart[u][v];
      }
    }
    return cost;
  }

  private int leastCost() {
    return plans.stream().mapToInt(this::cost).min().orElse(-1);
  }

  private String world() {
    return "in a world of " + Arrays.deepToString(direct) + " from " + Arrays.toString(have)
        + " to " + Arrays.toString(wanted) + " gates " + Arrays.toString(bounds) + ": ";
  }

  private void due(String call, long got, long want) {
    CHECK.due(world() + call, got, want);
  }

  private void compareSome() {
    int most = Math.min(Arrays.stream(have).sum(), Arrays.stream(wanted).sum());
    for (int m = 0; m <= most; m++) {
      findPlans(m);
      due("some " + m, mover.some(0, 1, m), leastCost());
    }
    due("some above", mover.some(0, 1, most + 1), HeapMover.OUTSIDE);
  }

  private void compare() {
    findPlans(Arrays.stream(have).sum());
    int least = leastCost();
    due("least", mover.least(0, 1), least);
    int[][] first = null;
    int cheapest = 0;
    for (int[][] plan : plans) {
      if (cost(plan) == least) {
        first = first == null ? plan : first;
        cheapest++;
      }
    }
    due("alone", mover.alone(0, 1), cheapest == 1 ? 1 : 0);
    for (int u = 0; u < places; u++) {
      for (int v = 0; v < places; v++) {
        due("apart " + u + " " + v, mover.apart(u, v), apart[u][v]);
        due("next " + u + " " + v, mover.next(u, v), behind(u, v));
        due("plan " + u + " " + v, mover.plan(0, 1, u, v), first[u][v]);
        due("load " + u + " " + v, mover.load(0, 1, u, v), carried(first, u, v));
      }
    }
    compareHeights(least);
    compareFar();
    due("gated", mover.gated(0, 1), cheapestMoves());
    compareSome();
    compareJudge(least);
  }

  private int behind(int u, int v) {
    if (u == v) {
      return -1;
    }
    for (int w = 0; w < places; w++) {
      if (direct[u][w] > 0 && direct[u][w] + apart[w][v] == apart[u][v]) {
        return w;
      }
    }
    throw new IllegalStateException("no way");
  }

  private int carried(int[][] plan, int u, int w) {
    int carried = 0;
    for (int from = 0; from < places; from++) {
      for (int to = 0; to < places; to++) {
        for (int at = from; at != to; at = behind(at, to)) {
          if (at == u && behind(at, to) == w) {
            carried += plan[from][to];
          }
        }
      }
    }
    return carried;
  }

  private void compareHeights(int least) {
    int[] greatest = new int[places];
    Arrays.fill(greatest, Integer.MIN_VALUE);
    raise(new int[places], 1, least, greatest);
    greatest[0] = 0;
    for (int v = 0; v < places; v++) {
      due("height " + v, mover.height(0, 1, v), greatest[v]);
    }
  }

  private void raise(int[] heights, int v, int least, int[] greatest) {
    if (v == places) {
      int proof = 0;
      for (int w = 0; w < places; w++) {
        proof += heights[w] * (have[w] - wanted[w]);
      }
      for (int w = 0; w < places && proof == least; w++) {
        greatest[w] = Math.max(greatest[w], heights[w]);
      }
      return;
    }
    for (int height = -apart[0][v]; height <= apart[v][0]; height++) {
      boolean fits = true;
      for (int w = 0; w < v; w++) {
        fits &= height - heights[w] <= apart[v][w] && heights[w] - height <= apart[w][v];
      }
      if (fits) {
        heights[v] = height;
        raise(heights, v + 1, least, greatest);
      }
    }
  }

  private void compareFar() {
    int far = Integer.MAX_VALUE;
    for (int[][] plan : plans) {
      int farthest = 0;
      for (int u = 0; u < places; u++) {
        for (int v = 0; v < places; v++) {
          farthest = plan[u][v] > 0 ? Math.max(farthest, apart[u][v]) : farthest;
        }
      }
      far = Math.min(far, farthest);
    }
    due("far", mover.far(0, 1), far);
    int greatest = Integer.MIN_VALUE;
    int least = 0;
    for (int set = 0; set < 1 << places && far > 0; set++) {
      int shortOf = shortOf(set, far);
      least = shortOf > greatest ? set : shortOf == greatest ? least & set : least;
      greatest = Math.max(greatest, shortOf);
    }
    for (int u = 0; u < places; u++) {
      due("shown " + u, mover.shown(0, 1, u), least >> u & 1);
    }
  }

  private int shortOf(int set, int far) {
    int shortOf = 0;
    for (int v = 0; v < places; v++) {
      shortOf += (set >> v & 1) == 1 ? have[v] : 0;
      boolean near = false;
      for (int u = 0; u < places; u++) {
        near |= (set >> u & 1) == 1 && apart[u][v] < far;
      }
      shortOf -= near ? wanted[v] : 0;
    }
    return shortOf;
  }

  private record State(int cost, List<Integer> goods, List<Integer> left) {}

  /** One unit at a time goes along one road; a gate counts what has left it. */
  private int cheapestMoves() {
    PriorityQueue<State> open = new PriorityQueue<>((s, t) -> Integer.compare(s.cost, t.cost));
    Map<List<Integer>, Boolean> done = new HashMap<>();
    List<Integer> target = list(wanted);
    open.add(new State(0, list(have), list(bounds)));
    while (!open.isEmpty()) {
      State state = open.poll();
      if (state.goods.equals(target)) {
        return state.cost;
      }
      List<Integer> key = new ArrayList<>(state.goods);
      key.addAll(state.left);
      if (done.put(key, true) == null) {
        moves(state, open);
      }
    }
    return -1;
  }

  private void moves(State state, PriorityQueue<State> open) {
    for (int u = 0; u < places; u++) {
      for (int w = 0; w < places; w++) {
        if (direct[u][w] > 0 && state.goods.get(u) > 0 && state.left.get(u) != 0) {
          List<Integer> goods = new ArrayList<>(state.goods);
          List<Integer> left = new ArrayList<>(state.left);
          goods.set(u, goods.get(u) - 1);
          goods.set(w, goods.get(w) + 1);
          left.set(u, left.get(u) < 0 ? -1 : left.get(u) - 1);
          open.add(new State(state.cost + direct[u][w], goods, left));
        }
      }
    }
  }

  private static List<Integer> list(int[] numbers) {
    List<Integer> list = new ArrayList<>();
    for (int number : numbers) {
      list.add(number);
    }
    return list;
  }

  private void compareJudge(int least) {
    findPlans(Arrays.stream(have).sum());
    for (int i = 0; i < plans.size(); i += 1 + plans.size() / 5) {
      int[][] plan = plans.get(i);
      for (int u = 0; u < places; u++) {
        for (int v = 0; v < places; v++) {
          mover.draft(u, v, plan[u][v]);
        }
      }
      int more = cost(plan) - least;
      due("judge " + Arrays.deepToString(plan), mover.judge(0, 1), more > 0 ? 3 : 0);
      due("beside " + Arrays.deepToString(plan), mover.beside(), more);
    }
  }
}

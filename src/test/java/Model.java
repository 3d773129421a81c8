import java.math.BigInteger;
import java.util.ArrayList;
import java.util.Arrays;
import java.util.List;

/**
 * Another, plain way to answer each call, for worlds of every size. A change keeps a whole copy
 * of the state before it; the first of the cheapest plans is the only cheapest one when each
 * number earns a little, far less than all numbers behind it together; sets of places are gone through.
 */
final class Model {
  static final int NONE = -1, UNKNOWN = -2, OUTSIDE = -3, NOT = -4, FULL = -5;
  private static final BigInteger BASE = BigInteger.valueOf(20011);

  private record Road(int u, int v, int length) {}

  private int places;
  private List<Road> roads = new ArrayList<>();
  private List<int[]> heaps = new ArrayList<>();
  private int[] bounds = new int[10];
  private final int[][] drafted = new int[10][10];
  private final List<Model> befores = new ArrayList<>();
  private int told;

  Model() {
    Arrays.fill(bounds, NONE);
  }

  private void keep() {
    Model before = new Model();
    before.places = places;
    before.roads = new ArrayList<>(roads);
    for (int[] heap : heaps) {
      before.heaps.add(heap.clone());
    }
    before.bounds = bounds.clone();
    befores.add(before);
    if (befores.size() > 30) {
      befores.remove(0);
    }
  }

  private boolean isPlace(int v) {
    return v >= 0 && v < places;
  }

  private boolean isHeap(int heap) {
    return heap >= 0 && heap < heaps.size();
  }

  int place() {
    if (places == 10) {
      return FULL;
    }
    keep();
    return places++;
  }

  int road(int u, int v, int length) {
    if (!isPlace(u) || !isPlace(v)) {
      return UNKNOWN;
    }
    if (length < 1 || length > 1000 || u == v) {
      return OUTSIDE;
    }
    if (roads.size() == 30) {
      return FULL;
    }
    keep();
    roads.add(new Road(u, v, length));
    return roads.size() - 1;
  }

  int heap() {
    if (heaps.size() == 8) {
      return FULL;
    }
    keep();
    heaps.add(new int[10]);
    return heaps.size() - 1;
  }

  int set(int heap, int place, int amount) {
    if (!isHeap(heap) || !isPlace(place)) {
      return UNKNOWN;
    }
    if (amount < 0 || amount > 1000) {
      return OUTSIDE;
    }
    keep();
    int before = heaps.get(heap)[place];
    heaps.get(heap)[place] = amount;
    return before;
  }

  int gate(int place, int bound) {
    if (!isPlace(place)) {
      return UNKNOWN;
    }
    if (bound < NONE || bound > 100000) {
      return OUTSIDE;
    }
    keep();
    int before = bounds[place];
    bounds[place] = bound;
    return before;
  }

  int undo() {
    if (befores.isEmpty()) {
      return NOT;
    }
    Model before = befores.remove(befores.size() - 1);
    places = before.places;
    roads = before.roads;
    heaps = before.heaps;
    bounds = before.bounds;
    for (int u = 0; u < 10; u++) {
      for (int v = 0; v < 10; v++) {
        if (u >= places || v >= places) {
          drafted[u][v] = 0;
        }
      }
    }
    return befores.size();
  }

  /** By lengthening ways road by road until nothing gets shorter; -1: no way. */
  private int[][] distances() {
    int[][] apart = new int[places][places];
    for (int u = 0; u < places; u++) {
      Arrays.fill(apart[u], NONE);
      apart[u][u] = 0;
      boolean changed = true;
      while (changed) {
        changed = false;
        for (Road road : roads) {
          changed |= shorten(apart[u], road.u, road.v, road.length);
          changed |= shorten(apart[u], road.v, road.u, road.length);
        }
      }
    }
    return apart;
  }

  private static boolean shorten(int[] apart, int u, int v, int length) {
    if (apart[u] == NONE || apart[v] != NONE && apart[v] <= apart[u] + length) {
      return false;
    }
    apart[v] = apart[u] + length;
    return true;
  }

  private boolean joined() {
    for (int[] row : distances()) {
      for (int apart : row) {
        if (apart == NONE) {
          return false;
        }
      }
    }
    return true;
  }

  int apart(int u, int v) {
    return isPlace(u) && isPlace(v) ? distances()[u][v] : UNKNOWN;
  }

  int next(int u, int v) {
    return isPlace(u) && isPlace(v) ? behind(distances(), u, v) : UNKNOWN;
  }

  private int behind(int[][] apart, int u, int v) {
    int least = NONE;
    for (Road road : roads) {
      int w = road.u == u ? road.v : road.v == u ? road.u : NONE;
      if (u != v && w != NONE && apart[w][v] != NONE && road.length + apart[w][v] == apart[u][v]) {
        least = least == NONE ? w : Math.min(least, w);
      }
    }
    return least;
  }

  int amount(int heap, int place) {
    return isHeap(heap) && isPlace(place) ? heaps.get(heap)[place] : UNKNOWN;
  }

  int sum(int heap) {
    return isHeap(heap) ? Arrays.stream(heaps.get(heap)).sum() : UNKNOWN;
  }

  private int refusal(int a, int b, int... at) {
    if (!isHeap(a) || !isHeap(b)) {
      return UNKNOWN;
    }
    for (int v : at) {
      if (!isPlace(v)) {
        return UNKNOWN;
      }
    }
    return joined() && sum(a) == sum(b) ? 0 : NOT;
  }

  /** Arcs with room and price; what is pushed goes along the cheapest ways that are left. */
  private static final class Arcs {
    private final int nodes;
    private final List<int[]> ends = new ArrayList<>();
    private final List<BigInteger> prices = new ArrayList<>();
    private final List<Integer> rooms = new ArrayList<>();
    private int moved;
    private BigInteger spent = BigInteger.ZERO;

    Arcs(int nodes) {
      this.nodes = nodes;
    }

    void join(int from, int to, int room, BigInteger price) {
      ends.add(new int[] {from, to});
      prices.add(price);
      rooms.add(room);
      ends.add(new int[] {to, from});
      prices.add(price.negate());
      rooms.add(0);
    }

    void join(int from, int to, int room) {
      join(from, to, room, BigInteger.ZERO);
    }

    /** From node 0 to node 1. */
    void push(int wanted) {
      while (moved < wanted) {
        BigInteger[] costs = new BigInteger[nodes];
        int[] last = new int[nodes];
        costs[0] = BigInteger.ZERO;
        search(costs, last);
        if (costs[1] == null) {
          return;
        }
        int amount = wanted - moved;
        for (int at = 1; at != 0; at = ends.get(last[at])[0]) {
          amount = Math.min(amount, rooms.get(last[at]));
        }
        for (int at = 1; at != 0; at = ends.get(last[at])[0]) {
          rooms.set(last[at], rooms.get(last[at]) - amount);
          rooms.set(last[at] ^ 1, rooms.get(last[at] ^ 1) + amount);
        }
        moved += amount;
        spent = spent.add(costs[1].multiply(BigInteger.valueOf(amount)));
      }
    }

    private void search(BigInteger[] costs, int[] last) {
      boolean changed = true;
      while (changed) {
        changed = false;
        for (int arc = 0; arc < ends.size(); arc++) {
          int from = ends.get(arc)[0];
          int to = ends.get(arc)[1];
          if (rooms.get(arc) > 0 && costs[from] != null) {
            BigInteger cost = costs[from].add(prices.get(arc));
            if (costs[to] == null || cost.compareTo(costs[to]) < 0) {
              costs[to] = cost;
              last[to] = arc;
              changed = true;
            }
          }
        }
      }
    }
  }

  /** The arcs of all pairs, row u being node 2 + u, column v node 12 + v; the pairs' arcs come first. */
  private Arcs pairs(int a, int b, BigInteger scale, int earning) {
    int[][] apart = distances();
    Arcs arcs = new Arcs(22);
    for (int u = 0; u < places; u++) {
      for (int v = 0; v < places; v++) {
        BigInteger price = BigInteger.valueOf(apart[u][v]).multiply(scale);
        if (earning != 0) {
          BigInteger earned = BASE.pow(places * places - 1 - u * places - v);
          price = earning > 0 ? price.subtract(earned) : price.add(earned);
        }
        arcs.join(2 + u, 12 + v, 1000000, price);
      }
    }
    for (int v = 0; v < places; v++) {
      arcs.join(0, 2 + v, heaps.get(a)[v]);
      arcs.join(12 + v, 1, heaps.get(b)[v]);
    }
    return arcs;
  }

  private int cheapest(int a, int b, int m) {
    Arcs arcs = pairs(a, b, BigInteger.ONE, 0);
    arcs.push(m);
    return arcs.spent.intValueExact();
  }

  /** The first (1) or the last (-1) of the cheapest plans in the document's order. */
  private int[][] extreme(int a, int b, int earning) {
    Arcs arcs = pairs(a, b, BASE.pow(places * places + 1), earning);
    arcs.push(sum(a));
    int[][] plan = new int[places][places];
    for (int u = 0; u < places; u++) {
      for (int v = 0; v < places; v++) {
        plan[u][v] = arcs.rooms.get(2 * (u * places + v) + 1);
      }
    }
    return plan;
  }

  int least(int a, int b) {
    int refusal = refusal(a, b);
    return refusal != 0 ? refusal : cheapest(a, b, sum(a));
  }

  int plan(int a, int b, int u, int v) {
    int refusal = refusal(a, b, u, v);
    return refusal != 0 ? refusal : extreme(a, b, 1)[u][v];
  }

  int alone(int a, int b) {
    int refusal = refusal(a, b);
    return refusal != 0 ? refusal : Arrays.deepEquals(extreme(a, b, 1), extreme(a, b, -1)) ? 1 : 0;
  }

  /** One more at v that is wanted at 0 costs as much more as the greatest height that proves. */
  int height(int a, int b, int v) {
    if (refusal(a, b, v) != 0) {
      return Integer.MIN_VALUE;
    }
    int before = cheapest(a, b, sum(a));
    int[] have = heaps.get(a).clone();
    int[] wanted = heaps.get(b).clone();
    have[v]++;
    wanted[0]++;
    heaps.add(have);
    heaps.add(wanted);
    int after = cheapest(heaps.size() - 2, heaps.size() - 1, sum(heaps.size() - 1));
    heaps.remove(heaps.size() - 1);
    heaps.remove(heaps.size() - 1);
    return after - before;
  }

  int load(int a, int b, int u, int w) {
    int refusal = refusal(a, b, u, w);
    if (refusal != 0) {
      return refusal;
    }
    int[][] plan = extreme(a, b, 1);
    int[][] apart = distances();
    int load = 0;
    for (int from = 0; from < places; from++) {
      for (int to = 0; to < places; to++) {
        for (int at = from; at != to; at = behind(apart, at, to)) {
          if (at == u && behind(apart, at, to) == w) {
            load += plan[from][to];
          }
        }
      }
    }
    return load;
  }

  /** There is such a plan just if no set of places has more than what it can reach. */
  private int farthest(int a, int b) {
    int[][] apart = distances();
    int f = 0;
    while (true) {
      boolean enough = true;
      for (int set = 0; set < 1 << places; set++) {
        enough &= shortOf(apart, a, b, set, f + 1) <= 0;
      }
      if (enough) {
        return f;
      }
      int above = Integer.MAX_VALUE;
      for (int[] row : apart) {
        for (int d : row) {
          above = d > f ? Math.min(above, d) : above;
        }
      }
      f = above;
    }
  }

  private int shortOf(int[][] apart, int a, int b, int set, int below) {
    int shortOf = 0;
    for (int v = 0; v < places; v++) {
      boolean near = false;
      for (int u = 0; u < places; u++) {
        near |= (set >> u & 1) == 1 && apart[u][v] < below;
      }
      shortOf += (set >> v & 1) * heaps.get(a)[v] - (near ? heaps.get(b)[v] : 0);
    }
    return shortOf;
  }

  int far(int a, int b) {
    int refusal = refusal(a, b);
    return refusal != 0 ? refusal : farthest(a, b);
  }

  int shown(int a, int b, int u) {
    int refusal = refusal(a, b, u);
    if (refusal != 0) {
      return refusal;
    }
    int f = farthest(a, b);
    int[][] apart = distances();
    int least = 0;
    int greatest = Integer.MIN_VALUE;
    for (int set = 0; set < 1 << places && f > 0; set++) {
      int shortOf = shortOf(apart, a, b, set, f);
      least = shortOf > greatest ? set : shortOf == greatest ? least & set : least;
      greatest = Math.max(greatest, shortOf);
    }
    return least >> u & 1;
  }

  int some(int a, int b, int m) {
    if (!isHeap(a) || !isHeap(b)) {
      return UNKNOWN;
    }
    if (m < 0 || m > sum(a) || m > sum(b)) {
      return OUTSIDE;
    }
    return joined() ? cheapest(a, b, m) : NOT;
  }

  int gated(int a, int b) {
    int refusal = refusal(a, b);
    if (refusal != 0) {
      return refusal;
    }
    Arcs arcs = new Arcs(22);
    for (int v = 0; v < places; v++) {
      arcs.join(0, 2 + v, heaps.get(a)[v]);
      arcs.join(2 + v, 1, heaps.get(b)[v]);
      arcs.join(2 + v, 12 + v, bounds[v] == NONE ? 1000000 : bounds[v]);
    }
    for (Road road : roads) {
      arcs.join(12 + road.u, 2 + road.v, 1000000, BigInteger.valueOf(road.length));
      arcs.join(12 + road.v, 2 + road.u, 1000000, BigInteger.valueOf(road.length));
    }
    arcs.push(sum(a));
    return arcs.moved == sum(a) ? arcs.spent.intValueExact() : NONE;
  }

  int draft(int u, int v, int n) {
    if (!isPlace(u) || !isPlace(v)) {
      return UNKNOWN;
    }
    if (n < 0 || n > 10000) {
      return OUTSIDE;
    }
    int before = drafted[u][v];
    drafted[u][v] = n;
    return before;
  }

  private int others() {
    int others = 0;
    for (int[] row : drafted) {
      for (int n : row) {
        others += n != 0 ? 1 : 0;
      }
    }
    return others;
  }

  int clear() {
    int others = others();
    for (int[] row : drafted) {
      Arrays.fill(row, 0);
    }
    return others;
  }

  int copy(int a, int b) {
    int refusal = refusal(a, b);
    if (refusal != 0) {
      return refusal;
    }
    int[][] plan = extreme(a, b, 1);
    for (int u = 0; u < places; u++) {
      System.arraycopy(plan[u], 0, drafted[u], 0, places);
    }
    return others();
  }

  int judge(int a, int b) {
    int refusal = refusal(a, b);
    if (refusal != 0) {
      return refusal;
    }
    int[][] apart = distances();
    int[] to = new int[10];
    int cost = 0;
    for (int u = 0; u < places; u++) {
      int from = 0;
      for (int v = 0; v < places; v++) {
        from += drafted[u][v];
        to[v] += drafted[u][v];
        cost += drafted[u][v] * apart[u][v];
      }
      if (from != heaps.get(a)[u]) {
        told = u;
        return 1;
      }
    }
    for (int v = 0; v < places; v++) {
      if (to[v] != heaps.get(b)[v]) {
        told = v;
        return 2;
      }
    }
    told = cost - cheapest(a, b, sum(a));
    return told > 0 ? 3 : 0;
  }

  int beside() {
    return told;
  }

  int count(int what) {
    switch (what) {
      case 0: return places;
      case 1: return roads.size();
      case 2: return heaps.size();
      case 3: return (int) Arrays.stream(bounds).filter(bound -> bound != NONE).count();
      case 4: return befores.size();
      case 5: return joined() ? 1 : 0;
      default: return OUTSIDE;
    }
  }
}

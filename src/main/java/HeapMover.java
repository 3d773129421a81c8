import java.util.Arrays;

/**
 * Goods that lie in heaps and are wanted elsewhere: what moving them costs at least,
 * the first of the cheapest plans, and what proves it.
 */
public final class HeapMover {
  public static final int NONE = -1, UNKNOWN = -2, OUTSIDE = -3, NOT = -4, FULL = -5;

  private static final int MOST_PLACES = 10;
  private static final int MOST_ROADS = 30;
  private static final int MOST_HEAPS = 8;
  private static final int MOST_LENGTH = 1000;
  private static final int MOST_AMOUNT = 1000;
  private static final int MOST_BOUND = 100000;
  private static final int MOST_DRAFTED = 10000;
  private static final int MOST_CHANGES = 30;
  private static final int MOST_GOODS = MOST_PLACES * MOST_AMOUNT;

  /** No refusal: every refusal is below 0. */
  private static final int FINE = 0;
  private static final int NO_HEIGHT = -2147483648;

  /** Above every sum of lengths, and small enough that two of them can be added. */
  private static final int NO_WAY = 1000000;

  /** Above all goods that there can be, so that it never holds anything up. */
  private static final int NO_LIMIT = 1000000;

  private static final int PLACE_MADE = 0;
  private static final int ROAD_MADE = 1;
  private static final int HEAP_MADE = 2;
  private static final int AMOUNT_SET = 3;
  private static final int GATE_SET = 4;

  private static final int SOURCE = 2 * MOST_PLACES;
  private static final int SINK = SOURCE + 1;
  private static final int NODES = SINK + 1;

  /** Each place to each place, and all places at the source and at the sink; each forth and back. */
  private static final int MOST_ARCS = 2 * (MOST_PLACES * MOST_PLACES + 2 * MOST_PLACES);

  private final Land land;
  private final Heaps heaps;
  private final Changes changes;
  private final Draft drafted;
  private final Mover mover;
  private final Planner planner;
  private final Reach reach;

  /** The heaps that the planner's and the reach's results are of; NONE: of none as they are now. */
  private int plannedFrom;
  private int plannedTo;
  private int reachedFrom;
  private int reachedTo;

  private int told;

  public HeapMover() {
    land = new Land();
    heaps = new Heaps();
    changes = new Changes();
    drafted = new Draft();
    mover = new Mover();
    planner = new Planner();
    reach = new Reach();
    plannedFrom = NONE;
    plannedTo = NONE;
    reachedFrom = NONE;
    reachedTo = NONE;
    told = 0;
  }

  // ---- places, roads, heaps

  public int place() {
    if (land.places >= MOST_PLACES) {
      return FULL;
    }
    int made = land.addPlace();
    noteChange(PLACE_MADE, made, NONE, NONE);
    return made;
  }

  public int road(int u, int v, int length) {
    if (!land.has(u) || !land.has(v)) {
      return UNKNOWN;
    }
    if (length < 1 || length > MOST_LENGTH || u == v) {
      return OUTSIDE;
    }
    if (land.roads >= MOST_ROADS) {
      return FULL;
    }
    int made = land.addRoad(u, v, length);
    noteChange(ROAD_MADE, made, NONE, NONE);
    return made;
  }

  public int heap() {
    if (heaps.made >= MOST_HEAPS) {
      return FULL;
    }
    int made = heaps.made;
    heaps.made++;
    noteChange(HEAP_MADE, made, NONE, NONE);
    return made;
  }

  public int set(int heap, int place, int amount) {
    if (!heaps.has(heap) || !land.has(place)) {
      return UNKNOWN;
    }
    if (amount < 0 || amount > MOST_AMOUNT) {
      return OUTSIDE;
    }
    int before = heaps.amounts[heap][place];
    heaps.amounts[heap][place] = amount;
    noteChange(AMOUNT_SET, heap, place, before);
    return before;
  }

  public int gate(int place, int bound) {
    if (!land.has(place)) {
      return UNKNOWN;
    }
    if (bound < NONE || bound > MOST_BOUND) {
      return OUTSIDE;
    }
    int before = land.bounds[place];
    land.bounds[place] = bound;
    noteChange(GATE_SET, place, NONE, before);
    return before;
  }

  public int undo() {
    if (changes.kept == 0) {
      return NOT;
    }
    takeBack(changes.dropLatest());
    forgetResults();
    return changes.kept;
  }

  public int apart(int u, int v) {
    if (!land.has(u) || !land.has(v)) {
      return UNKNOWN;
    }
    int distance = land.distances[u][v];
    return distance == NO_WAY ? NONE : distance;
  }

  public int next(int u, int v) {
    if (!land.has(u) || !land.has(v)) {
      return UNKNOWN;
    }
    return land.placeBehind(u, v);
  }

  public int amount(int heap, int place) {
    if (!heaps.has(heap) || !land.has(place)) {
      return UNKNOWN;
    }
    return heaps.amounts[heap][place];
  }

  public int sum(int heap) {
    if (!heaps.has(heap)) {
      return UNKNOWN;
    }
    return heaps.total(heap);
  }

  // ---- moving

  public int least(int a, int b) {
    int refusal = refusalOfMoving(a, b);
    return refusal == FINE ? leastCost(a, b) : refusal;
  }

  public int plan(int a, int b, int u, int v) {
    int refusal = refusalAtPlaces(a, b, u, v);
    if (refusal != FINE) {
      return refusal;
    }
    makePlan(a, b);
    return planner.goods[u][v];
  }

  public int alone(int a, int b) {
    int refusal = refusalOfMoving(a, b);
    if (refusal != FINE) {
      return refusal;
    }
    makePlan(a, b);
    return planner.hasOther(land) ? 0 : 1;
  }

  public int height(int a, int b, int v) {
    if (refusalAtPlaces(a, b, v, v) != FINE) {
      return NO_HEIGHT;
    }
    makePlan(a, b);
    return planner.heights[v];
  }

  public int load(int a, int b, int u, int w) {
    int refusal = refusalAtPlaces(a, b, u, w);
    if (refusal != FINE) {
      return refusal;
    }
    makePlan(a, b);
    return planner.carried(land, u, w);
  }

  public int far(int a, int b) {
    int refusal = refusalOfMoving(a, b);
    if (refusal != FINE) {
      return refusal;
    }
    makeReach(a, b);
    return reach.farthest;
  }

  public int shown(int a, int b, int u) {
    int refusal = refusalAtPlaces(a, b, u, u);
    if (refusal != FINE) {
      return refusal;
    }
    makeReach(a, b);
    return reach.stuck[u];
  }

  public int some(int a, int b, int m) {
    if (!heaps.has(a) || !heaps.has(b)) {
      return UNKNOWN;
    }
    if (m < 0 || m > Math.min(heaps.total(a), heaps.total(b))) {
      return OUTSIDE;
    }
    if (!land.isJoined()) {
      return NOT;
    }
    return mover.cheapest(land, heaps.amounts[a], heaps.amounts[b], m);
  }

  public int gated(int a, int b) {
    int refusal = refusalOfMoving(a, b);
    if (refusal != FINE) {
      return refusal;
    }
    return mover.cheapestThroughGates(land, heaps.amounts[a], heaps.amounts[b]);
  }

  // ---- plans that are told

  public int draft(int u, int v, int n) {
    if (!land.has(u) || !land.has(v)) {
      return UNKNOWN;
    }
    if (n < 0 || n > MOST_DRAFTED) {
      return OUTSIDE;
    }
    int before = drafted.numbers[u][v];
    drafted.numbers[u][v] = n;
    return before;
  }

  public int clear() {
    int were = drafted.others();
    drafted.wipe();
    return were;
  }

  public int copy(int a, int b) {
    int refusal = refusalOfMoving(a, b);
    if (refusal != FINE) {
      return refusal;
    }
    makePlan(a, b);
    for (int u = 0; u < land.places; u++) {
      for (int v = 0; v < land.places; v++) {
        drafted.numbers[u][v] = planner.goods[u][v];
      }
    }
    return drafted.others();
  }

  public int judge(int a, int b) {
    int refusal = refusalOfMoving(a, b);
    if (refusal != FINE) {
      return refusal;
    }
    int wrong = drafted.firstWrongFrom(land.places, heaps.amounts[a]);
    if (wrong != NONE) {
      told = wrong;
      return 1;
    }
    wrong = drafted.firstWrongTo(land.places, heaps.amounts[b]);
    if (wrong != NONE) {
      told = wrong;
      return 2;
    }
    told = drafted.cost(land) - leastCost(a, b);
    return told > 0 ? 3 : 0;
  }

  public int beside() {
    return told;
  }

  public int count(int what) {
    switch (what) {
      case 0:
        return land.places;
      case 1:
        return land.roads;
      case 2:
        return heaps.made;
      case 3:
        return land.gates();
      case 4:
        return changes.kept;
      case 5:
        return land.isJoined() ? 1 : 0;
      default:
        return OUTSIDE;
    }
  }

  // ---- what the calls share

  private int refusalOfMoving(int a, int b) {
    if (!heaps.has(a) || !heaps.has(b)) {
      return UNKNOWN;
    }
    if (!land.isJoined() || heaps.total(a) != heaps.total(b)) {
      return NOT;
    }
    return FINE;
  }

  private int refusalAtPlaces(int a, int b, int u, int v) {
    if (!land.has(u) || !land.has(v)) {
      return UNKNOWN;
    }
    return refusalOfMoving(a, b);
  }

  private int leastCost(int a, int b) {
    return mover.cheapest(land, heaps.amounts[a], heaps.amounts[b], heaps.total(a));
  }

  private void makePlan(int a, int b) {
    if (plannedFrom == a && plannedTo == b) {
      return;
    }
    planner.make(land, mover, heaps.amounts[a], heaps.amounts[b], heaps.total(a));
    plannedFrom = a;
    plannedTo = b;
  }

  private void makeReach(int a, int b) {
    if (reachedFrom == a && reachedTo == b) {
      return;
    }
    reach.make(land, heaps.amounts[a], heaps.amounts[b], heaps.total(a));
    reachedFrom = a;
    reachedTo = b;
  }

  private void noteChange(int kind, int first, int second, int before) {
    changes.keep(kind, first, second, before);
    forgetResults();
  }

  private void forgetResults() {
    plannedFrom = NONE;
    reachedFrom = NONE;
  }

  private void takeBack(int slot) {
    int first = changes.firsts[slot];
    int second = changes.seconds[slot];
    switch (changes.kinds[slot]) {
      case PLACE_MADE:
        land.dropPlace();
        drafted.wipePlace(first);
        break;
      case ROAD_MADE:
        land.dropRoad();
        break;
      case HEAP_MADE:
        heaps.made--;
        break;
      case AMOUNT_SET:
        heaps.amounts[first][second] = changes.befores[slot];
        break;
      default:
        land.bounds[first] = changes.befores[slot];
        break;
    }
  }

  /** Places, the roads between them, and the gates. */
  private static final class Land {
    int places;
    int roads;
    final int[] starts = new int[MOST_ROADS];
    final int[] ends = new int[MOST_ROADS];
    final int[] lengths = new int[MOST_ROADS];
    final int[] bounds = new int[MOST_PLACES];

    /** The shortest single road between two places: of several only that one ever matters. */
    final int[][] directs = new int[MOST_PLACES][MOST_PLACES];
    final int[][] distances = new int[MOST_PLACES][MOST_PLACES];

    Land() {
      for (int v = 0; v < MOST_PLACES; v++) {
        bounds[v] = NONE;
      }
    }

    boolean has(int place) {
      return place >= 0 && place < places;
    }

    int addPlace() {
      int made = places;
      places++;
      measure();
      return made;
    }

    /** Its roads, gate and amounts have gone before it, as changes are taken back last one first. */
    void dropPlace() {
      places--;
    }

    int addRoad(int u, int v, int length) {
      int made = roads;
      starts[made] = u;
      ends[made] = v;
      lengths[made] = length;
      roads++;
      measure();
      return made;
    }

    void dropRoad() {
      roads--;
      measure();
    }

    int gates() {
      int found = 0;
      for (int v = 0; v < places; v++) {
        if (bounds[v] != NONE) {
          found++;
        }
      }
      return found;
    }

    boolean isJoined() {
      for (int v = 0; v < places; v++) {
        if (distances[0][v] == NO_WAY) {
          return false;
        }
      }
      return true;
    }

    int placeBehind(int u, int v) {
      if (u == v || distances[u][v] == NO_WAY) {
        return NONE;
      }
      for (int w = 0; w < places; w++) {
        if (directs[u][w] + distances[w][v] == distances[u][v]) {
          return w;
        }
      }
      return NONE;
    }

    private void measure() {
      measureRoads();
      for (int u = 0; u < places; u++) {
        System.arraycopy(directs[u], 0, distances[u], 0, places);
        distances[u][u] = 0;
      }
      for (int w = 0; w < places; w++) {
        for (int u = 0; u < places; u++) {
          shortenBy(u, w);
        }
      }
    }

    private void measureRoads() {
      for (int u = 0; u < places; u++) {
        Arrays.fill(directs[u], NO_WAY);
      }
      for (int road = 0; road < roads; road++) {
        int u = starts[road];
        int v = ends[road];
        int length = Math.min(directs[u][v], lengths[road]);
        directs[u][v] = length;
        directs[v][u] = length;
      }
    }

    private void shortenBy(int u, int w) {
      int first = distances[u][w];
      if (first == NO_WAY) {
        return;
      }
      for (int v = 0; v < places; v++) {
        int through = first + distances[w][v];
        if (through < distances[u][v]) {
          distances[u][v] = through;
        }
      }
    }
  }

  /** The heaps' amounts; those of heaps and places that are not there are 0. */
  private static final class Heaps {
    int made;
    final int[][] amounts = new int[MOST_HEAPS][MOST_PLACES];

    boolean has(int heap) {
      return heap >= 0 && heap < made;
    }

    int total(int heap) {
      int total = 0;
      for (int v = 0; v < MOST_PLACES; v++) {
        total += amounts[heap][v];
      }
      return total;
    }
  }

  /** The latest changes, in a ring: when it is full, the oldest makes room. */
  private static final class Changes {
    int kept;
    int oldest;
    final int[] kinds = new int[MOST_CHANGES];
    final int[] firsts = new int[MOST_CHANGES];
    final int[] seconds = new int[MOST_CHANGES];
    final int[] befores = new int[MOST_CHANGES];

    void keep(int kind, int first, int second, int before) {
      int slot = (oldest + kept) % MOST_CHANGES;
      kinds[slot] = kind;
      firsts[slot] = first;
      seconds[slot] = second;
      befores[slot] = before;
      if (kept < MOST_CHANGES) {
        kept++;
      } else {
        oldest = (oldest + 1) % MOST_CHANGES;
      }
    }

    /** The slot of the change that is kept no more; one must be kept. */
    int dropLatest() {
      kept--;
      return (oldest + kept) % MOST_CHANGES;
    }
  }

  /** A plan as it was told; the numbers of places that are not there are 0. */
  private static final class Draft {
    final int[][] numbers = new int[MOST_PLACES][MOST_PLACES];

    void wipe() {
      for (int u = 0; u < MOST_PLACES; u++) {
        Arrays.fill(numbers[u], 0);
      }
    }

    void wipePlace(int place) {
      for (int v = 0; v < MOST_PLACES; v++) {
        numbers[place][v] = 0;
        numbers[v][place] = 0;
      }
    }

    /** How many numbers are not 0. */
    int others() {
      int found = 0;
      for (int u = 0; u < MOST_PLACES; u++) {
        for (int v = 0; v < MOST_PLACES; v++) {
          if (numbers[u][v] != 0) {
            found++;
          }
        }
      }
      return found;
    }

    int firstWrongFrom(int places, int[] have) {
      for (int u = 0; u < places; u++) {
        int total = 0;
        for (int v = 0; v < places; v++) {
          total += numbers[u][v];
        }
        if (total != have[u]) {
          return u;
        }
      }
      return NONE;
    }

    int firstWrongTo(int places, int[] wanted) {
      for (int v = 0; v < places; v++) {
        int total = 0;
        for (int u = 0; u < places; u++) {
          total += numbers[u][v];
        }
        if (total != wanted[v]) {
          return v;
        }
      }
      return NONE;
    }

    int cost(Land land) {
      int cost = 0;
      for (int u = 0; u < land.places; u++) {
        for (int v = 0; v < land.places; v++) {
          cost += numbers[u][v] * land.distances[u][v];
        }
      }
      return cost;
    }
  }

  /** Arcs with room and a price, along which goods are pushed from SOURCE to SINK, the cheapest way first. */
  private static final class Network {
    int arcs;
    int moved;
    int spent;

    /** An arc and its way back stand side by side: arc ^ 1 is the other one. */
    final int[] tails = new int[MOST_ARCS];
    final int[] heads = new int[MOST_ARCS];
    final int[] rooms = new int[MOST_ARCS];
    final int[] prices = new int[MOST_ARCS];

    /** Of the latest search: what the cheapest way to a node costs, and its last arc. */
    final int[] costs = new int[NODES];
    final int[] lastArcs = new int[NODES];

    void empty() {
      arcs = 0;
      moved = 0;
      spent = 0;
    }

    void join(int tail, int head, int room, int price) {
      if (arcs + 2 > MOST_ARCS) {
        return;
      }
      addArc(tail, head, room, price);
      addArc(head, tail, 0, -price);
    }

    /** Goes on until so much has been moved in all, or no more can be. */
    void push(int wanted) {
      for (int turn = 0; turn < MOST_GOODS && moved < wanted && search(); turn++) {
        carry(wanted - moved);
      }
    }

    boolean isReached(int node) {
      return costs[node] < NO_WAY;
    }

    private void addArc(int tail, int head, int room, int price) {
      tails[arcs] = tail;
      heads[arcs] = head;
      rooms[arcs] = room;
      prices[arcs] = price;
      arcs++;
    }

    private boolean search() {
      Arrays.fill(costs, NO_WAY);
      Arrays.fill(lastArcs, NONE);
      costs[SOURCE] = 0;
      for (int round = 0; round < NODES; round++) {
        if (!relax()) {
          break;
        }
      }
      return isReached(SINK);
    }

    private boolean relax() {
      boolean changed = false;
      for (int arc = 0; arc < arcs; arc++) {
        int before = costs[tails[arc]];
        if (rooms[arc] > 0 && before < NO_WAY && before + prices[arc] < costs[heads[arc]]) {
          costs[heads[arc]] = before + prices[arc];
          lastArcs[heads[arc]] = arc;
          changed = true;
        }
      }
      return changed;
    }

    private void carry(int most) {
      int amount = most;
      int arc = lastArcs[SINK];
      for (int step = 0; step < NODES && arc != NONE; step++) {
        amount = Math.min(amount, rooms[arc]);
        arc = lastArcs[tails[arc]];
      }
      arc = lastArcs[SINK];
      for (int step = 0; step < NODES && arc != NONE; step++) {
        rooms[arc] -= amount;
        rooms[arc ^ 1] += amount;
        arc = lastArcs[tails[arc]];
      }
      moved += amount;
      spent += amount * costs[SINK];
    }
  }

  /**
   * The least cost of moving. As no way is shorter by going over a third place, what lies
   * where it is wanted may stay, and only what is too much goes to where too little is.
   */
  private static final class Mover {
    final Network network = new Network();

    int cheapest(Land land, int[] have, int[] wanted, int m) {
      network.empty();
      joinSource(land.places, have, wanted);
      for (int u = 0; u < land.places; u++) {
        for (int v = 0; v < land.places; v++) {
          if (have[u] > wanted[u] && have[v] < wanted[v]) {
            network.join(u, v, NO_LIMIT, land.distances[u][v]);
          }
        }
      }
      joinSink(land.places, have, wanted);
      network.push(m - staying(land.places, have, wanted));
      return network.spent;
    }

    /** Node v is where goods come to place v, node MOST_PLACES + v where they leave it. */
    int cheapestThroughGates(Land land, int[] have, int[] wanted) {
      network.empty();
      int leaving = joinSource(land.places, have, wanted);
      for (int u = 0; u < land.places; u++) {
        int bound = land.bounds[u];
        network.join(u, MOST_PLACES + u, bound == NONE ? NO_LIMIT : bound, 0);
        for (int v = 0; v < land.places; v++) {
          if (land.directs[u][v] < NO_WAY) {
            network.join(MOST_PLACES + u, v, NO_LIMIT, land.directs[u][v]);
          }
        }
      }
      joinSink(land.places, have, wanted);
      network.push(leaving);
      return network.moved == leaving ? network.spent : NONE;
    }

    private int joinSource(int places, int[] have, int[] wanted) {
      int leaving = 0;
      for (int u = 0; u < places; u++) {
        if (have[u] > wanted[u]) {
          network.join(SOURCE, u, have[u] - wanted[u], 0);
          leaving += have[u] - wanted[u];
        }
      }
      return leaving;
    }

    private void joinSink(int places, int[] have, int[] wanted) {
      for (int v = 0; v < places; v++) {
        if (have[v] < wanted[v]) {
          network.join(v, SINK, wanted[v] - have[v], 0);
        }
      }
    }

    private static int staying(int places, int[] have, int[] wanted) {
      int staying = 0;
      for (int v = 0; v < places; v++) {
        staying += Math.min(have[v], wanted[v]);
      }
      return staying;
    }
  }

  /** The first of the cheapest plans, and the heights that prove it. */
  private static final class Planner {
    final int[][] goods = new int[MOST_PLACES][MOST_PLACES];
    final int[] heights = new int[MOST_PLACES];

    /** Of the latest search for a ring: whence each row and column was come to, NONE if not. */
    private final int[] rowFrom = new int[MOST_PLACES];
    private final int[] columnFrom = new int[MOST_PLACES];
    private final int[] columns = new int[MOST_PLACES];

    void make(Land land, Mover mover, int[] have, int[] wanted, int total) {
      mover.cheapest(land, have, wanted, total);
      takeGoods(land.places, mover.network, have, wanted);
      raiseHeights(land);
      putFirst(land);
    }

    /** Whether goods may go so in a cheapest plan: the heights' difference is the whole distance. */
    private boolean isTight(Land land, int u, int v) {
      return heights[u] - heights[v] == land.distances[u][v];
    }

    private void takeGoods(int places, Network network, int[] have, int[] wanted) {
      for (int u = 0; u < places; u++) {
        Arrays.fill(goods[u], 0);
        goods[u][u] = Math.min(have[u], wanted[u]);
      }
      for (int arc = 0; arc + 1 < network.arcs; arc += 2) {
        int tail = network.tails[arc];
        int head = network.heads[arc];
        if (tail < places && head < places) {
          goods[tail][head] = network.rooms[arc + 1];
        }
      }
    }

    /** From above down: each height is let fall only as far as a bound on it asks. */
    private void raiseHeights(Land land) {
      for (int v = 0; v < land.places; v++) {
        heights[v] = land.distances[v][0];
      }
      for (int round = 0; round < land.places; round++) {
        if (!lowerHeights(land)) {
          break;
        }
      }
    }

    private boolean lowerHeights(Land land) {
      boolean changed = false;
      for (int u = 0; u < land.places; u++) {
        for (int v = 0; v < land.places; v++) {
          int distance = land.distances[u][v];
          if (heights[u] > heights[v] + distance) {
            heights[u] = heights[v] + distance;
            changed = true;
          }
          if (goods[u][v] > 0 && heights[v] > heights[u] - distance) {
            heights[v] = heights[u] - distance;
            changed = true;
          }
        }
      }
      return changed;
    }

    /** Cell by cell in their order: as much as can be, without touching the cells before it. */
    private void putFirst(Land land) {
      for (int u = 0; u < land.places; u++) {
        for (int v = 0; v < land.places; v++) {
          if (isTight(land, u, v)) {
            int free = cell(u, v) + 1;
            for (int turn = 0; turn < MOST_AMOUNT && findRing(land, u, v, free); turn++) {
              turnRing(u, v);
            }
          }
        }
      }
    }

    /** Another cheapest plan differs by rings, each of which puts more onto some tight cell. */
    boolean hasOther(Land land) {
      for (int u = 0; u < land.places; u++) {
        for (int v = 0; v < land.places; v++) {
          if (isTight(land, u, v) && findRing(land, u, v, 0)) {
            return true;
          }
        }
      }
      return false;
    }

    private static int cell(int u, int v) {
      return u * MOST_PLACES + v;
    }

    /**
     * Whether more can be put onto (u, v): taken off a cell of column v, put onto a tight cell
     * of that row, and so on, until it is taken off a cell of row u. All other cells from the
     * cell free on may be used.
     */
    private boolean findRing(Land land, int u, int v, int free) {
      Arrays.fill(rowFrom, NONE);
      Arrays.fill(columnFrom, NONE);
      columnFrom[v] = u;
      columns[0] = v;
      int reached = 1;
      for (int i = 0; i < reached && i < MOST_PLACES; i++) {
        int column = columns[i];
        for (int row = 0; row < land.places; row++) {
          boolean usable = cell(row, column) >= free && cell(row, column) != cell(u, v);
          if (usable && rowFrom[row] == NONE && goods[row][column] > 0) {
            rowFrom[row] = column;
            reached = reachColumns(land, row, reached, free);
          }
        }
        if (rowFrom[u] != NONE) {
          return true;
        }
      }
      return false;
    }

    private int reachColumns(Land land, int row, int already, int free) {
      int reached = already;
      for (int column = 0; column < land.places; column++) {
        if (columnFrom[column] == NONE && cell(row, column) >= free && isTight(land, row, column)) {
          columnFrom[column] = row;
          if (reached < MOST_PLACES) {
            columns[reached] = column;
            reached++;
          }
        }
      }
      return reached;
    }

    /** Goes back along the latest ring; each column that a row was come to from was come to itself. */
    private void turnRing(int u, int v) {
      int amount = ringAmount(u, v);
      int row = u;
      int column = rowFrom[u];
      for (int step = 0; step < MOST_PLACES && column != NONE; step++) {
        goods[row][column] -= amount;
        row = columnFrom[column];
        goods[row][column] += amount;
        column = column == v ? NONE : rowFrom[row];
      }
    }

    private int ringAmount(int u, int v) {
      int amount = MOST_AMOUNT;
      int row = u;
      int column = rowFrom[u];
      for (int step = 0; step < MOST_PLACES && column != NONE; step++) {
        amount = Math.min(amount, goods[row][column]);
        row = columnFrom[column];
        column = column == v ? NONE : rowFrom[row];
      }
      return amount;
    }

    /** What of the plan goes from place u to place w by one road. */
    int carried(Land land, int u, int w) {
      int carried = 0;
      for (int from = 0; from < land.places; from++) {
        for (int to = 0; to < land.places; to++) {
          if (goods[from][to] > 0 && land.placeBehind(u, to) == w && passes(land, from, to, u)) {
            carried += goods[from][to];
          }
        }
      }
      return carried;
    }

    private static boolean passes(Land land, int from, int to, int place) {
      int at = from;
      for (int step = 0; step < MOST_PLACES && at != NONE; step++) {
        if (at == place) {
          return true;
        }
        at = land.placeBehind(at, to);
      }
      return false;
    }
  }

  /** How far some goods must go at least, and the places that show it. */
  private static final class Reach {
    int farthest;

    /** 1 for a place that is shown, else 0. */
    final int[] stuck = new int[MOST_PLACES];
    private final Network network = new Network();

    /** Lets goods go farther and farther, until all of them find a place. */
    void make(Land land, int[] have, int[] wanted, int total) {
      joinEnds(land.places, have, wanted);
      Arrays.fill(stuck, 0);
      farthest = 0;
      joinDistance(land, have, wanted);
      network.push(total);
      for (int turn = 0; turn < MOST_PLACES * MOST_PLACES && network.moved < total; turn++) {
        noteStuck(land.places);
        farthest = distanceAbove(land, farthest);
        joinDistance(land, have, wanted);
        network.push(total);
      }
    }

    /** Node u is where goods of place u lie, node MOST_PLACES + v where place v wants them. */
    private void joinEnds(int places, int[] have, int[] wanted) {
      network.empty();
      for (int v = 0; v < places; v++) {
        if (have[v] > 0) {
          network.join(SOURCE, v, have[v], 0);
        }
        if (wanted[v] > 0) {
          network.join(MOST_PLACES + v, SINK, wanted[v], 0);
        }
      }
    }

    private void joinDistance(Land land, int[] have, int[] wanted) {
      for (int u = 0; u < land.places; u++) {
        for (int v = 0; v < land.places; v++) {
          if (land.distances[u][v] == farthest && have[u] > 0 && wanted[v] > 0) {
            network.join(u, MOST_PLACES + v, NO_LIMIT, 0);
          }
        }
      }
    }

    /** The push failed last: what it still reached are the goods that can't get away. */
    private void noteStuck(int places) {
      for (int u = 0; u < places; u++) {
        stuck[u] = network.isReached(u) ? 1 : 0;
      }
    }

    private static int distanceAbove(Land land, int distance) {
      int above = NO_WAY;
      for (int u = 0; u < land.places; u++) {
        for (int v = 0; v < land.places; v++) {
          if (land.distances[u][v] > distance) {
            above = Math.min(above, land.distances[u][v]);
          }
        }
      }
      return above;
    }
  }
}

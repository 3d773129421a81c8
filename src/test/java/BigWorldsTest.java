import java.util.Random;

/** Worlds of ten places and thirty roads, whose whole plan and all heights, loads and shown places are compared. */
public final class BigWorldsTest {
  private static final Check CHECK = new Check("BigWorldsTest");

  private final HeapMover mover = new HeapMover();
  private final Model model = new Model();
  private final String world;

  public static void main(String[] args) {
    int worlds = args.length > 0 ? Integer.parseInt(args[0]) : 40;
    for (int seed = 0; seed < worlds; seed++) {
      new BigWorldsTest(seed).compare();
    }
    CHECK.end();
  }

  private BigWorldsTest(int seed) {
    world = "world " + seed + ": ";
    Random random = new Random(seed);
    int longest = new int[] {1, 3, 20, 1000}[seed % 4];
    int most = new int[] {2, 9, 1000}[seed % 3];
    int roads = seed % 5 == 0 ? 9 : 30;
    for (int v = 0; v < 10; v++) {
      due("place()", mover.place(), model.place());
    }
    for (int road = 0; road < roads; road++) {
      int v = road < 9 ? road + 1 : random.nextInt(10);
      int u = road < 9 ? random.nextInt(v) : (v + 1 + random.nextInt(9)) % 10;
      int length = 1 + random.nextInt(longest);
      due("road()", mover.road(u, v, length), model.road(u, v, length));
    }
    fillHeaps(random, most);
    for (int v = 0; v < 10; v++) {
      int bound = random.nextInt(3) == 0 ? random.nextInt(3 * most) : -1;
      due("gate()", mover.gate(v, bound), model.gate(v, bound));
    }
  }

  private void fillHeaps(Random random, int most) {
    for (int heap = 0; heap < 2; heap++) {
      due("heap()", mover.heap(), model.heap());
      for (int v = 0; v < 10; v++) {
        set(heap, v, random.nextInt(most + 1));
      }
    }
    for (int v = 0; v < 10; v++) {
      int amount = model.amount(1, v) + model.sum(0) - model.sum(1);
      set(1, v, Math.max(0, Math.min(1000, amount)));
    }
  }

  private void set(int heap, int v, int amount) {
    due("set()", mover.set(heap, v, amount), model.set(heap, v, amount));
  }

  private void due(String call, long got, long want) {
    CHECK.due(world + call, got, want);
  }

  private void compare() {
    due("least", mover.least(0, 1), model.least(0, 1));
    due("alone", mover.alone(0, 1), model.alone(0, 1));
    due("far", mover.far(0, 1), model.far(0, 1));
    due("gated", mover.gated(0, 1), model.gated(0, 1));
    due("copy", mover.copy(0, 1), model.copy(0, 1));
    int sum = model.sum(0);
    for (int part = 0; part <= 8; part++) {
      due("some " + part + " eighths", mover.some(0, 1, sum * part / 8), model.some(0, 1, sum * part / 8));
    }
    for (int u = 0; u < 10; u++) {
      due("height " + u, mover.height(0, 1, u), model.height(0, 1, u));
      due("shown " + u, mover.shown(0, 1, u), model.shown(0, 1, u));
      for (int v = 0; v < 10; v++) {
        int goods = model.draft(u, v, 0);
        due("draft " + u + " " + v, mover.draft(u, v, 0), goods);
        due("plan " + u + " " + v, mover.plan(0, 1, u, v), goods);
        due("next " + u + " " + v, mover.next(u, v), model.next(u, v));
      }
      int w = model.next(u, (u + 5) % 10);
      due("load " + u + " " + w, mover.load(0, 1, u, w), model.load(0, 1, u, w));
    }
  }
}

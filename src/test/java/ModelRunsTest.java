import java.util.Random;

/** Long runs of chance calls, the same each time, on the class and on the model. */
public final class ModelRunsTest {
  private static final Check CHECK = new Check("ModelRunsTest");
  private static final int CALLS = 512;
  private static final int[] STRANGE = {
    Integer.MIN_VALUE, Integer.MAX_VALUE, -1000000, -3, -2, -1, 10, 11, 30, 1000, 1001, 10000, 10001,
    100000, 100001, 1 << 30
  };

  private final Random random;
  private final HeapMover mover = new HeapMover();
  private final Model model = new Model();
  private final int places;
  private final int longest;
  private final int most;
  private String run;
  private int calls;

  private ModelRunsTest(long seed) {
    random = new Random(seed);
    run = "run " + seed;
    places = 1 + random.nextInt(10);
    longest = pick(1, 2, 3, 10, 1000);
    most = pick(1, 2, 5, 30, 1000);
  }

  public static void main(String[] args) {
    int runs = args.length > 0 ? Integer.parseInt(args[0]) : 60;
    long first = args.length > 1 ? Long.parseLong(args[1]) : 0;
    for (long seed = first; seed < first + runs; seed++) {
      ModelRunsTest test = new ModelRunsTest(seed);
      if (seed % 4 != 0) {
        test.build();
      }
      test.go();
    }
    CHECK.end();
  }

  private int pick(int... numbers) {
    return numbers[random.nextInt(numbers.length)];
  }

  private void due(String call, long got, long want) {
    calls++;
    CHECK.due(run + ", call " + calls + ": " + call, got, want);
  }

  /** A world that is joined, so that most calls are answered. */
  private void build() {
    for (int v = 0; v < places; v++) {
      due("place()", mover.place(), model.place());
    }
    for (int v = 1; v < places; v++) {
      road(random.nextInt(v), v, 1 + random.nextInt(longest));
    }
    for (int heap = 0; heap < 3; heap++) {
      due("heap()", mover.heap(), model.heap());
      fillHeap(heap);
    }
    for (int road = random.nextInt(20); road > 0; road--) {
      road(anyPlace(), anyPlace(), 1 + random.nextInt(longest));
    }
  }

  private void fillHeap(int heap) {
    for (int v = 0; v < model.count(0); v++) {
      if (random.nextInt(4) != 0) {
        set(heap, v, random.nextInt(most + 1));
      }
    }
  }

  /** Changes amounts of heap b until its sum is that of heap a, as far as the amounts' bound lets it. */
  private void level(int a, int b) {
    int there = model.count(0);
    int start = there == 0 ? 0 : random.nextInt(there);
    for (int i = 0; i < there && model.sum(a) != model.sum(b); i++) {
      int v = (start + i) % there;
      int amount = model.amount(b, v) + model.sum(a) - model.sum(b);
      set(b, v, Math.max(0, Math.min(1000, amount)));
    }
  }

  private void go() {
    while (calls < CALLS - 30) {
      int a = anyHeap();
      int b = anyHeap();
      if (random.nextInt(5) == 0 && model.sum(a) >= 0 && model.sum(b) >= 0) {
        level(a, b);
        askAll(a, b);
      } else if (random.nextInt(3) == 0) {
        change();
      } else {
        ask(random.nextInt(14), a, b);
      }
    }
  }

  private void askAll(int a, int b) {
    for (int kind = 0; kind < 14; kind++) {
      ask(kind, a, b);
    }
  }

  private int anyPlace() {
    return random.nextInt(25) == 0 ? strange() : random.nextInt(Math.max(1, model.count(0)));
  }

  private int anyHeap() {
    return random.nextInt(25) == 0 ? strange() : random.nextInt(Math.max(1, model.count(2)));
  }

  private int strange() {
    return STRANGE[random.nextInt(STRANGE.length)];
  }

  private int number(int bound) {
    return random.nextInt(15) == 0 ? strange() : random.nextInt(bound + 1);
  }

  private void road(int u, int v, int length) {
    due("road(" + u + ", " + v + ", " + length + ")", mover.road(u, v, length), model.road(u, v, length));
  }

  private void set(int heap, int v, int amount) {
    due("set(" + heap + ", " + v + ", " + amount + ")", mover.set(heap, v, amount), model.set(heap, v, amount));
  }

  private void change() {
    switch (random.nextInt(9)) {
      case 0 -> {
        if (model.count(0) < places || random.nextInt(8) == 0) {
          due("place()", mover.place(), model.place());
        }
      }
      case 1, 2 -> road(anyPlace(), anyPlace(), number(longest));
      case 3 -> due("heap()", mover.heap(), model.heap());
      case 4, 5 -> set(anyHeap(), anyPlace(), number(most));
      case 6 -> gate(anyPlace(), random.nextInt(3) == 0 ? -1 : number(2 * most));
      case 7 -> undoSome();
      default -> draft(anyPlace(), anyPlace(), number(most));
    }
  }

  private void undoSome() {
    int times = random.nextInt(6) == 0 ? random.nextInt(34) : 1;
    for (int time = 0; time < times && calls < CALLS - 40; time++) {
      due("undo()", mover.undo(), model.undo());
    }
  }

  private void gate(int v, int bound) {
    due("gate(" + v + ", " + bound + ")", mover.gate(v, bound), model.gate(v, bound));
  }

  private void draft(int u, int v, int n) {
    due("draft(" + u + ", " + v + ", " + n + ")", mover.draft(u, v, n), model.draft(u, v, n));
  }

  private void ask(int kind, int a, int b) {
    int u = anyPlace();
    int v = anyPlace();
    String heaps = "(" + a + ", " + b + ") ";
    switch (kind) {
      case 0 -> {
        due("apart " + u + " " + v, mover.apart(u, v), model.apart(u, v));
        due("next " + u + " " + v, mover.next(u, v), model.next(u, v));
      }
      case 1 -> {
        due("amount " + a + " " + u, mover.amount(a, u), model.amount(a, u));
        due("sum " + a, mover.sum(a), model.sum(a));
      }
      case 2 -> due("least" + heaps, mover.least(a, b), model.least(a, b));
      case 3, 4 -> due("plan" + heaps + u + " " + v, mover.plan(a, b, u, v), model.plan(a, b, u, v));
      case 5 -> due("alone" + heaps, mover.alone(a, b), model.alone(a, b));
      case 6 -> due("height" + heaps + v, mover.height(a, b, v), model.height(a, b, v));
      case 7 -> {
        int w = random.nextBoolean() ? v : model.next(u, v);
        due("load" + heaps + u + " " + w, mover.load(a, b, u, w), model.load(a, b, u, w));
      }
      case 8 -> due("far" + heaps, mover.far(a, b), model.far(a, b));
      case 9 -> due("shown" + heaps + u, mover.shown(a, b, u), model.shown(a, b, u));
      case 10 -> {
        int m = number(Math.max(0, Math.min(model.sum(a), model.sum(b))) + 1);
        due("some" + heaps + m, mover.some(a, b, m), model.some(a, b, m));
      }
      case 11 -> due("gated" + heaps, mover.gated(a, b), model.gated(a, b));
      case 12 -> judge(a, b);
      default -> {
        int what = number(6);
        due("count " + what, mover.count(what), model.count(what));
      }
    }
  }

  private void judge(int a, int b) {
    String heaps = "(" + a + ", " + b + ")";
    if (random.nextInt(4) == 0) {
      due("clear()", mover.clear(), model.clear());
    } else if (random.nextInt(3) != 0) {
      due("copy" + heaps, mover.copy(a, b), model.copy(a, b));
      if (random.nextBoolean()) {
        turnDraft();
      }
    }
    due("judge" + heaps, mover.judge(a, b), model.judge(a, b));
    due("beside()", mover.beside(), model.beside());
  }

  /** Turns one unit of the draft, so that it stays a plan and may have become dear. */
  private void turnDraft() {
    int there = model.count(0);
    for (int u = 0; u < there; u++) {
      for (int v = 0; v < there; v++) {
        int x = random.nextInt(there);
        int y = random.nextInt(there);
        if (u != x && v != y && peek(u, v) > 0 && peek(x, y) > 0) {
          draft(u, v, peek(u, v) - 1);
          draft(x, y, peek(x, y) - 1);
          draft(u, y, peek(u, y) + 1);
          draft(x, v, peek(x, v) + 1);
          return;
        }
      }
    }
  }

  private int peek(int u, int v) {
    int n = model.draft(u, v, 0);
    model.draft(u, v, n);
    return n;
  }
}

/** Worlds that tests begin with. */
final class Worlds {
  private Worlds() {}

  static HeapMover places(int places) {
    HeapMover x = new HeapMover();
    for (int v = 0; v < places; v++) {
      x.place();
    }
    return x;
  }

  static HeapMover heaps(int heaps) {
    HeapMover x = new HeapMover();
    for (int heap = 0; heap < heaps; heap++) {
      x.heap();
    }
    return x;
  }

  /** Places and two heaps; each road is told by its two places and its length. */
  static HeapMover net(int places, int[]... roads) {
    HeapMover x = places(places);
    for (int[] road : roads) {
      x.road(road[0], road[1], road[2]);
    }
    x.heap();
    x.heap();
    return x;
  }

  /** Places 0 .. n - 1 in a line, each two neighbours the same length apart, and two heaps. */
  static HeapMover line(int places, int length) {
    int[][] roads = new int[places - 1][];
    for (int v = 1; v < places; v++) {
      roads[v - 1] = new int[] {v - 1, v, length};
    }
    return net(places, roads);
  }

  /** As many places as lengths, each with a road to the one behind it and the last to 0; two heaps. */
  static HeapMover ring(int... lengths) {
    int[][] roads = new int[lengths.length][];
    for (int v = 0; v < lengths.length; v++) {
      roads[v] = new int[] {v, (v + 1) % lengths.length, lengths[v]};
    }
    return net(lengths.length, roads);
  }

  static void fill(HeapMover x, int heap, int... amounts) {
    for (int v = 0; v < amounts.length; v++) {
      x.set(heap, v, amounts[v]);
    }
  }

  static void draft(HeapMover x, int[]... rows) {
    for (int u = 0; u < rows.length; u++) {
      for (int v = 0; v < rows[u].length; v++) {
        x.draft(u, v, rows[u][v]);
      }
    }
  }
}

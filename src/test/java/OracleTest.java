import java.util.Random;

/** All promises: long mixed runs of calls, each answer held against the oracle's. The seeds are fixed. */
public final class OracleTest {
  private static final int RUNS = 150;
  private static final int CALLS = CountedHull.MOST_CALLS;
  private static final int[] SPREADS = {1, 2, 3, 5, 12, 60};
  private static final Check CHECK = new Check();

  public static void main(String[] args) {
    for (int run = 0; run < RUNS; run++) {
      run(run, SPREADS[run % SPREADS.length]);
    }
    CHECK.end();
  }

  private static void run(int seed, int spread) {
    Random random = new Random(seed);
    int room = seed % 3 == 0 ? random.nextInt(20) - 2 : 14;
    CountedHull hull = new CountedHull(room);
    Oracle oracle = new Oracle(room);
    for (int call = 0; call < CALLS; call++) {
      int x = coordinate(random, spread);
      int y = coordinate(random, spread);
      int z = coordinate(random, spread);
      String name = "seed " + seed + ", call " + call + ": ";
      // More is added than removed, so that the set is mostly solid and at times full.
      int kind = random.nextInt(20);
      if (kind < 4) {
        CHECK.due(name + "add" + at(x, y, z), hull.add(x, y, z), oracle.add(x, y, z));
      } else if (kind == 4) {
        CHECK.due(name + "removeLast()", hull.removeLast(), oracle.removeLast());
      } else if (kind < 9) {
        askPlace(name, kind, hull, oracle, new int[] {x, y, z});
      } else if (kind < 14) {
        askPoints(name, kind, hull, oracle, random.nextInt(17) - 1, random.nextInt(17) - 1);
      } else {
        askCount(name, kind, hull, oracle);
      }
    }
  }

  private static int coordinate(Random random, int spread) {
    int kind = random.nextInt(60);
    if (kind == 0) {
      return random.nextInt(420) - 210;
    }
    return kind == 1 ? 60 * (random.nextInt(3) - 1) : random.nextInt(2 * spread + 1) - spread;
  }

  private static String at(int x, int y, int z) {
    return "(" + x + ", " + y + ", " + z + ")";
  }

  private static void askPlace(String name, int kind, CountedHull hull, Oracle oracle, int[] p) {
    String place = at(p[0], p[1], p[2]);
    if (kind < 7) {
      CHECK.due(name + "side" + place, hull.side(p[0], p[1], p[2]), oracle.side(p[0], p[1], p[2]));
    } else if (kind == 7) {
      CHECK.due(name + "visible" + place, hull.visible(p[0], p[1], p[2]), oracle.visible(p[0], p[1], p[2]));
    } else {
      CHECK.due(name + "farthest" + place, hull.farthest(p[0], p[1], p[2]), oracle.farthest(p[0], p[1], p[2]));
    }
  }

  private static void askPoints(String name, int kind, CountedHull hull, Oracle oracle, int a, int b) {
    String pair = "(" + a + ", " + b + ")";
    switch (kind) {
      case 9 -> CHECK.due(name + "corner(" + a + ")", hull.corner(a), oracle.corner(a));
      case 10 -> CHECK.due(name + "touching(" + a + ")", hull.touching(a), oracle.touching(a));
      case 11 -> CHECK.due(name + "shared" + pair, hull.shared(a, b), oracle.shared(a, b));
      default -> CHECK.due(name + "edge" + pair, hull.edge(a, b), oracle.edge(a, b));
    }
  }

  private static void askCount(String name, int kind, CountedHull hull, Oracle oracle) {
    switch (kind) {
      case 14 -> CHECK.due(name + "size()", hull.size(), oracle.size());
      case 15 -> CHECK.due(name + "solid()", hull.solid(), oracle.solid());
      case 16 -> CHECK.due(name + "facets()", hull.facets(), oracle.facets());
      case 17 -> CHECK.due(name + "corners()", hull.corners(), oracle.corners());
      case 18 -> CHECK.due(name + "edges()", hull.edges(), oracle.edges());
      default -> CHECK.due(name + "sixVolume()", hull.sixVolume(), oracle.sixVolume());
    }
  }
}

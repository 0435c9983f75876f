import java.util.function.IntSupplier;

/** An object under test, where each call comes with the answer that is due. */
final class DueHull {
  private final Check check;
  private final CountedHull hull;
  private final String name;

  DueHull(Check check, String name, int room) {
    this.check = check;
    this.name = name + ": ";
    hull = new CountedHull(room);
  }

  /** An object with room for 14 points that holds the given ones. */
  DueHull(Check check, String name, int[][] points) {
    this(check, name, 14);
    hold(points);
  }

  /** Adds the given points to an object that holds none. */
  void hold(int[][] points) {
    for (int i = 0; i < points.length; i++) {
      add(points[i], i);
    }
  }

  int calls() {
    return hull.calls();
  }

  void add(int[] p, int want) {
    add(p[0], p[1], p[2], want);
  }

  void add(int x, int y, int z, int want) {
    due("add" + list(x, y, z), () -> hull.add(x, y, z), want);
  }

  void removeLast(int want) {
    due("removeLast()", () -> hull.removeLast(), want);
  }

  void size(int want) {
    due("size()", () -> hull.size(), want);
  }

  void solid(boolean want) {
    due("solid()", () -> hull.solid() ? 1 : 0, want ? 1 : 0);
  }

  void side(int[] p, int want) {
    side(p[0], p[1], p[2], want);
  }

  void side(int x, int y, int z, int want) {
    due("side" + list(x, y, z), () -> hull.side(x, y, z), want);
  }

  void visible(int[] p, int want) {
    visible(p[0], p[1], p[2], want);
  }

  void visible(int x, int y, int z, int want) {
    due("visible" + list(x, y, z), () -> hull.visible(x, y, z), want);
  }

  void facets(int want) {
    due("facets()", () -> hull.facets(), want);
  }

  void corners(int want) {
    due("corners()", () -> hull.corners(), want);
  }

  void edges(int want) {
    due("edges()", () -> hull.edges(), want);
  }

  void corner(int point, int want) {
    due("corner(" + point + ")", () -> hull.corner(point), want);
  }

  void touching(int point, int want) {
    due("touching(" + point + ")", () -> hull.touching(point), want);
  }

  void edge(int a, int b, int want) {
    due("edge(" + a + ", " + b + ")", () -> hull.edge(a, b), want);
  }

  void shared(int a, int b, int want) {
    due("shared(" + a + ", " + b + ")", () -> hull.shared(a, b), want);
  }

  void sixVolume(int want) {
    due("sixVolume()", () -> hull.sixVolume(), want);
  }

  void farthest(int[] d, int want) {
    farthest(d[0], d[1], d[2], want);
  }

  void farthest(int dx, int dy, int dz, int want) {
    due("farthest" + list(dx, dy, dz), () -> hull.farthest(dx, dy, dz), want);
  }

  /** No call may ever throw; one that does is a wrong answer, and the test goes on. */
  private void due(String call, IntSupplier asked, int want) {
    try {
      check.due(name + call, asked.getAsInt(), want);
    } catch (RuntimeException thrown) {
      check.threw(name + call, thrown, want);
    }
  }

  private static String list(int x, int y, int z) {
    return "(" + x + ", " + y + ", " + z + ")";
  }
}

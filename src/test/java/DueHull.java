/** An object under test, where each call comes with the answer that is due. */
final class DueHull {
  private final Check check;
  private final CountedHull hull;
  private final String name;

  DueHull(Check check, String name, int room) {
    this.check = check;
    this.name = name + ": ";
    hull = new CountedHull(room);
  }

  /** An object with room for 14 points that holds the given ones. */
  DueHull(Check check, String name, int[][] points) {
    this(check, name, 14);
    hold(points);
  }

  /** Adds the given points to an object that holds none. */
  void hold(int[][] points) {
    for (int i = 0; i < points.length; i++) {
      add(points[i], i);
    }
  }

  int calls() {
    return hull.calls();
  }

  void add(int[] p, int want) {
    add(p[0], p[1], p[2], want);
  }

  void add(int x, int y, int z, int want) {
    check.due(name + "add" + list(x, y, z), hull.add(x, y, z), want);
  }

  void removeLast(int want) {
    check.due(name + "removeLast()", hull.removeLast(), want);
  }

  void size(int want) {
    check.due(name + "size()", hull.size(), want);
  }

  void solid(boolean want) {
    check.due(name + "solid()", hull.solid(), want);
  }

  void side(int[] p, int want) {
    side(p[0], p[1], p[2], want);
  }

  void side(int x, int y, int z, int want) {
    check.due(name + "side" + list(x, y, z), hull.side(x, y, z), want);
  }

  void visible(int[] p, int want) {
    visible(p[0], p[1], p[2], want);
  }

  void visible(int x, int y, int z, int want) {
    check.due(name + "visible" + list(x, y, z), hull.visible(x, y, z), want);
  }

  void facets(int want) {
    check.due(name + "facets()", hull.facets(), want);
  }

  void corners(int want) {
    check.due(name + "corners()", hull.corners(), want);
  }

  void edges(int want) {
    check.due(name + "edges()", hull.edges(), want);
  }

  void corner(int point, int want) {
    check.due(name + "corner(" + point + ")", hull.corner(point), want);
  }

  void touching(int point, int want) {
    check.due(name + "touching(" + point + ")", hull.touching(point), want);
  }

  void edge(int a, int b, int want) {
    check.due(name + "edge(" + a + ", " + b + ")", hull.edge(a, b), want);
  }

  void shared(int a, int b, int want) {
    check.due(name + "shared(" + a + ", " + b + ")", hull.shared(a, b), want);
  }

  void sixVolume(int want) {
    check.due(name + "sixVolume()", hull.sixVolume(), want);
  }

  void farthest(int[] d, int want) {
    farthest(d[0], d[1], d[2], want);
  }

  void farthest(int dx, int dy, int dz, int want) {
    check.due(name + "farthest" + list(dx, dy, dz), hull.farthest(dx, dy, dz), want);
  }

  private static String list(int x, int y, int z) {
    return "(" + x + ", " + y + ", " + z + ")";
  }
}

/** Promises 11 to 14: corner, touching, edge and shared. */
public final class PointTest {
  private static final Check CHECK = new Check();

  public static void main(String[] args) {
    cube();
    cubePairs();
    line();
    bipyramid();
    badPoints();
    flats();
    CHECK.end();
  }

  private static void point(CountedHull hull, int point, int corner, int touching) {
    CHECK.due("corner(" + point + ")", hull.corner(point), corner);
    CHECK.due("touching(" + point + ")", hull.touching(point), touching);
    CHECK.due("shared(" + point + ", " + point + ")", hull.shared(point, point), touching);
    CHECK.due("edge(" + point + ", " + point + ")", hull.edge(point, point), 0);
  }

  private static void pair(CountedHull hull, int a, int b, int edge, int shared) {
    CHECK.due("edge(" + a + ", " + b + ")", hull.edge(a, b), edge);
    CHECK.due("edge(" + b + ", " + a + ")", hull.edge(b, a), edge);
    CHECK.due("shared(" + a + ", " + b + ")", hull.shared(a, b), shared);
    CHECK.due("shared(" + b + ", " + a + ")", hull.shared(b, a), shared);
  }

  private static void cube() {
    CountedHull hull = Shapes.hull(Shapes.FULL_CUBE);
    for (int p = 0; p < 8; p++) {
      point(hull, p, 1, 3);
    }
    point(hull, 8, 0, 1);
    point(hull, 9, 0, 2);
    point(hull, 10, 0, 0);
    pair(hull, 8, 9, 0, 1);
    pair(hull, 8, 10, 0, 0);
    pair(hull, 9, 4, 0, 2);
    pair(hull, 9, 5, 0, 2);
    pair(hull, 4, 5, 1, 2);
    pair(hull, 8, 7, 0, 1);
    hull.add(5, 5, 20);
    point(hull, 8, 0, 0);
    point(hull, 11, 1, 4);
    point(hull, 4, 1, 4);
    pair(hull, 4, 11, 1, 2);
    pair(hull, 4, 7, 0, 0);
    pair(hull, 0, 11, 0, 0);
  }

  /** The number of a corner has a bit for each direction: corners share the faces where their bits agree. */
  private static void cubePairs() {
    CountedHull hull = Shapes.hull(Shapes.GREATEST_CUBE);
    for (int a = 0; a < 8; a++) {
      for (int b = 0; b < 8; b++) {
        int shared = 3 - Integer.bitCount(a ^ b);
        pair(hull, a, b, shared == 2 ? 1 : 0, shared);
      }
    }
  }

  /** Points in the line of an edge: only its two ends are corners. */
  private static void line() {
    CountedHull hull = Shapes.hull(new int[][] {
      {1, 0, 0}, {2, 0, 0}, {3, 0, 0}, {0, 3, 0}, {0, 0, 3}, {0, 0, 0},
    });
    point(hull, 0, 0, 2);
    point(hull, 1, 0, 2);
    point(hull, 2, 1, 3);
    point(hull, 5, 1, 3);
    pair(hull, 5, 2, 1, 2);
    pair(hull, 5, 0, 0, 2);
    pair(hull, 0, 1, 0, 2);
    hull.add(6, 0, 0);
    point(hull, 2, 0, 2);
    point(hull, 6, 1, 3);
    pair(hull, 5, 2, 0, 2);
    pair(hull, 5, 6, 1, 2);
    hull.removeLast();
    point(hull, 2, 1, 3);
    pair(hull, 5, 2, 1, 2);
  }

  private static void bipyramid() {
    CountedHull hull = Shapes.hull(Shapes.BIPYRAMID);
    for (int p = 0; p < 12; p++) {
      point(hull, p, 1, 4);
      pair(hull, p, (p + 1) % 12, 1, 2);
      pair(hull, p, (p + 5) % 12, 0, 0);
      pair(hull, p, 12, 1, 2);
      pair(hull, p, 13, 1, 2);
    }
    point(hull, 12, 1, 12);
    point(hull, 13, 1, 12);
    pair(hull, 12, 13, 0, 0);
  }

  private static void badPoint(CountedHull hull, int bad) {
    CHECK.due("corner(" + bad + ")", hull.corner(bad), SolidHull.BAD_POINT);
    CHECK.due("touching(" + bad + ")", hull.touching(bad), SolidHull.BAD_POINT);
    pair(hull, bad, bad, SolidHull.BAD_POINT, SolidHull.BAD_POINT);
    pair(hull, bad, 0, SolidHull.BAD_POINT, SolidHull.BAD_POINT);
  }

  private static void badPoints() {
    int[] always = {-1, -2, 14, 31, 32, 33, 64, Integer.MIN_VALUE, Integer.MAX_VALUE};
    for (int count = 0; count <= 14; count++) {
      CountedHull hull = Shapes.hull(Shapes.BIPYRAMID, count);
      for (int bad : always) {
        badPoint(hull, bad);
      }
      for (int bad = count; bad < 14; bad++) {
        badPoint(hull, bad);
      }
      CHECK.due("size() after refusals", hull.size(), count);
    }
    CountedHull shrunk = Shapes.hull(Shapes.CUBE);
    shrunk.removeLast();
    badPoint(shrunk, 7);
    CHECK.due("corner(6)", shrunk.corner(6), 1);
  }

  private static void flats() {
    for (int[][] flat : Shapes.flats()) {
      for (int a = 0; a < flat.length; a++) {
        CountedHull hull = Shapes.hull(flat);
        CHECK.due("flat: corner(" + a + ")", hull.corner(a), SolidHull.FLAT);
        CHECK.due("flat: touching(" + a + ")", hull.touching(a), SolidHull.FLAT);
        for (int b = 0; b < flat.length; b++) {
          pair(hull, a, b, SolidHull.FLAT, SolidHull.FLAT);
        }
        pair(hull, a, flat.length, SolidHull.BAD_POINT, SolidHull.BAD_POINT);
        CHECK.due("size() after refusals", hull.size(), flat.length);
      }
    }
  }
}

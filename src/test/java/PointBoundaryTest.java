/** The boundary cases in the sentences of promises 11 to 14: corner, touching, edge and shared. */
public final class PointBoundaryTest {
  private static final Check CHECK = new Check();
  private static final int BAD_POINT = SolidHull.BAD_POINT;
  private static final int FLAT = SolidHull.FLAT;
  /** Numbers of no point, also those that a byte, a shift or a sign would turn into one of a point. */
  private static final int[] BAD = {
    -1, -2, -14, 14, 15, 31, 32, 33, 63, 64, 256, 257, -256, 65536, 65537, -32,
    Integer.MAX_VALUE, Integer.MIN_VALUE, Integer.MIN_VALUE + 1,
  };

  public static void main(String[] args) {
    corner();
    cornerBadPoint();
    cornerFlat();
    touching();
    touchingBadPoint();
    touchingFlat();
    edge();
    edgeOfOnePoint();
    edgeBadPoint();
    edgeFlat();
    shared();
    sharedOfOnePoint();
    sharedBadPoint();
    sharedFlat();
    CHECK.end();
  }

  private static DueHull hull(String name, int[][] points) {
    return new DueHull(CHECK, name, points);
  }

  private interface AskPoint {
    void ask(DueHull hull, int point, int want);
  }

  private interface AskPair {
    void ask(DueHull hull, int a, int b, int want);
  }

  /** An object that holds so many points of a set that is solid from the fourth on. */
  private static DueHull holding(int count) {
    DueHull hull = new DueHull(CHECK, count + " points held", 14);
    for (int i = 0; i < count; i++) {
      hull.add(Shapes.CAP[i], i);
    }
    return hull;
  }

  private static void badPoints(AskPoint ask) {
    for (int count = 0; count <= 14; count++) {
      DueHull hull = holding(count);
      for (int bad : BAD) {
        ask.ask(hull, bad, BAD_POINT);
      }
      for (int bad = count; bad < 14; bad++) {
        ask.ask(hull, bad, BAD_POINT);
      }
    }
    DueHull removed = holding(8);
    removed.removeLast(7);
    ask.ask(removed, 7, BAD_POINT);
  }

  /** Each of the two numbers may be the bad one, or both. */
  private static void badPairs(AskPair ask) {
    for (int count = 0; count <= 14; count++) {
      DueHull hull = holding(count);
      for (int bad : BAD) {
        badPair(ask, hull, bad, count);
      }
      for (int bad = count; bad < 14; bad++) {
        badPair(ask, hull, bad, count);
      }
    }
    DueHull removed = holding(8);
    removed.removeLast(7);
    badPair(ask, removed, 7, 7);
  }

  private static void badPair(AskPair ask, DueHull hull, int bad, int count) {
    int good = count - 1;
    ask.ask(hull, bad, 0, BAD_POINT);
    ask.ask(hull, 0, bad, BAD_POINT);
    ask.ask(hull, bad, good, BAD_POINT);
    ask.ask(hull, good, bad, BAD_POINT);
    ask.ask(hull, bad, bad, BAD_POINT);
  }

  private static void flatPoints(AskPoint ask) {
    for (int[][] flat : Shapes.flats()) {
      DueHull hull = hull("flat set of " + flat.length, flat);
      for (int p = 0; p < flat.length; p++) {
        ask.ask(hull, p, FLAT);
      }
    }
    DueHull hull = holding(4);
    hull.removeLast(3);
    ask.ask(hull, 0, FLAT);
    ask.ask(hull, 2, FLAT);
  }

  private static void flatPairs(AskPair ask) {
    for (int[][] flat : Shapes.flats()) {
      DueHull hull = hull("flat set of " + flat.length, flat);
      for (int a = 0; a < flat.length; a++) {
        for (int b = 0; b < flat.length; b++) {
          ask.ask(hull, a, b, FLAT);
        }
      }
    }
    DueHull hull = holding(4);
    hull.removeLast(3);
    ask.ask(hull, 0, 2, FLAT);
    ask.ask(hull, 1, 1, FLAT);
  }

  private static void corner() {
    CHECK.sentence("Promise 11: 1 if the point is a corner, else 0");
    DueHull cap = holding(14);
    for (int p = 0; p < 14; p++) {
      cap.corner(p, 1);
    }
    DueHull cube = hull("full cube", Shapes.FULL_CUBE);
    cube.corner(0, 1);
    cube.corner(7, 1);
    cube.corner(8, 0);
    cube.corner(9, 0);
    cube.corner(10, 0);
    // A corner no more, and a corner again.
    cube.add(20, 10, 10, 11);
    cube.corner(7, 0);
    cube.corner(11, 1);
    cube.removeLast(11);
    cube.corner(7, 1);
  }

  private static void cornerBadPoint() {
    CHECK.sentence("Promise 11: BAD_POINT if point is not the number of a point held");
    badPoints(DueHull::corner);
  }

  private static void cornerFlat() {
    CHECK.sentence("Promise 11: FLAT");
    flatPoints(DueHull::corner);
  }

  private static void touching() {
    CHECK.sentence("Promise 12: in how many facet planes the point lies");
    DueHull cube = hull("full cube", Shapes.FULL_CUBE);
    cube.touching(10, 0);
    cube.touching(8, 1);
    cube.touching(9, 2);
    cube.touching(7, 3);
    cube.touching(0, 3);
    DueHull wide = hull("wide pyramid", Shapes.WIDE_PYRAMID);
    wide.touching(13, 13);
    wide.touching(0, 3);
    wide.touching(12, 3);
    hull("bipyramid", Shapes.BIPYRAMID).touching(13, 12);
    DueHull edge = hull("long edge", Shapes.LONG_EDGE);
    for (int p = 0; p < 14; p++) {
      edge.touching(p, p == 0 || p >= 11 ? 3 : 2);
    }
  }

  private static void touchingBadPoint() {
    CHECK.sentence("Promise 12: BAD_POINT");
    badPoints(DueHull::touching);
  }

  private static void touchingFlat() {
    CHECK.sentence("Promise 12: FLAT");
    flatPoints(DueHull::touching);
  }

  private static void edge() {
    CHECK.sentence("Promise 13: 1 if the two points are different corners that make an edge, else 0");
    DueHull wide = hull("wide pyramid", Shapes.WIDE_PYRAMID);
    for (int a = 0; a < 13; a++) {
      for (int b = 0; b < 13; b++) {
        int apart = (a - b + 13) % 13;
        wide.edge(a, b, apart == 1 || apart == 12 ? 1 : 0);
      }
      wide.edge(a, 13, 1);
      wide.edge(13, a, 1);
    }
    DueHull cube = hull("full cube", Shapes.FULL_CUBE);
    cube.edge(4, 5, 1);
    cube.edge(5, 4, 1);
    cube.edge(0, 3, 0);
    cube.edge(0, 7, 0);
    // Point 9 lies in the edge of 4 and 5, point 8 in a face, point 10 within.
    cube.edge(4, 9, 0);
    cube.edge(9, 5, 0);
    cube.edge(8, 9, 0);
    cube.edge(10, 4, 0);
    cube.edge(4, 10, 0);
    // The edge is cut by a new corner, and is whole again.
    cube.add(5, -1, 11, 11);
    cube.edge(4, 5, 0);
    cube.edge(4, 11, 1);
    cube.edge(11, 5, 1);
    cube.removeLast(11);
    cube.edge(4, 5, 1);
  }

  private static void edgeOfOnePoint() {
    CHECK.sentence("Promise 13: 1 if the two points are different corners: a = b is none");
    DueHull cube = hull("full cube", Shapes.FULL_CUBE);
    for (int p = 0; p < 11; p++) {
      cube.edge(p, p, 0);
    }
    DueHull wide = hull("wide pyramid", Shapes.WIDE_PYRAMID);
    wide.edge(13, 13, 0);
    wide.edge(0, 0, 0);
  }

  private static void edgeBadPoint() {
    CHECK.sentence("Promise 13: BAD_POINT if a or b is not the number of a point held");
    badPairs(DueHull::edge);
  }

  private static void edgeFlat() {
    CHECK.sentence("Promise 13: FLAT");
    flatPairs(DueHull::edge);
  }

  private static void shared() {
    CHECK.sentence("Promise 14: how many facet planes contain both points");
    DueHull cube = hull("full cube", Shapes.FULL_CUBE);
    cube.shared(4, 5, 2);
    cube.shared(5, 4, 2);
    cube.shared(0, 3, 1);
    cube.shared(0, 7, 0);
    cube.shared(4, 9, 2);
    cube.shared(9, 8, 1);
    cube.shared(9, 0, 1);
    cube.shared(9, 2, 0);
    cube.shared(10, 4, 0);
    cube.shared(4, 10, 0);
    DueHull edge = hull("long edge", Shapes.LONG_EDGE);
    edge.shared(5, 6, 2);
    edge.shared(0, 11, 2);
    edge.shared(12, 13, 2);
    edge.shared(5, 12, 1);
    edge.shared(0, 12, 2);
    DueHull wide = hull("wide pyramid", Shapes.WIDE_PYRAMID);
    wide.shared(0, 6, 1);
    wide.shared(0, 12, 2);
    wide.shared(13, 12, 2);
  }

  private static void sharedOfOnePoint() {
    CHECK.sentence("Promise 14: for a = b: touching(a)");
    DueHull cube = hull("full cube", Shapes.FULL_CUBE);
    cube.shared(7, 7, 3);
    cube.shared(8, 8, 1);
    cube.shared(9, 9, 2);
    cube.shared(10, 10, 0);
    DueHull wide = hull("wide pyramid", Shapes.WIDE_PYRAMID);
    wide.shared(13, 13, 13);
    wide.shared(0, 0, 3);
  }

  private static void sharedBadPoint() {
    CHECK.sentence("Promise 14: BAD_POINT");
    badPairs(DueHull::shared);
  }

  private static void sharedFlat() {
    CHECK.sentence("Promise 14: FLAT");
    flatPairs(DueHull::shared);
  }
}

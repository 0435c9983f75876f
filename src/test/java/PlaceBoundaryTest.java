/** The boundary cases in the sentences of promises 6, 7 and 16: side, visible and farthest. */
public final class PlaceBoundaryTest {
  private static final Check CHECK = new Check();
  private static final int[] BAD = {
    201, -201, 202, 255, 256, -256, 300, 456, 65535, 65536, -65536, 65736,
    Integer.MAX_VALUE, Integer.MIN_VALUE, Integer.MIN_VALUE + 1, Integer.MIN_VALUE + 200,
  };

  public static void main(String[] args) {
    side();
    sideOfHeldPoints();
    sideBadPlace();
    sideFlat();
    visible();
    visibleStrictly();
    visibleMost();
    visibleBadPlace();
    visibleFlat();
    farthestGreatest();
    farthestLeastNumber();
    farthestCornersOnly();
    farthestZero();
    farthestBadPlace();
    farthestFlat();
    CHECK.end();
  }

  private static DueHull hull(String name, int[][] points) {
    return new DueHull(CHECK, name, points);
  }

  private static void side() {
    CHECK.sentence("Promise 6: OUTSIDE, SURFACE or INSIDE for the place");
    DueHull hull = hull("greatest cube", Shapes.GREATEST_CUBE);
    for (int axis = 0; axis < 3; axis++) {
      int[] reaches = {-200, -61, -60, -59, 0, 59, 60, 61, 200};
      int[] answers = {0, 0, 1, 2, 2, 2, 1, 0, 0};
      for (int i = 0; i < reaches.length; i++) {
        int[] place = {7, -7, 7};
        place[axis] = reaches[i];
        hull.side(place, answers[i]);
      }
    }
    DueHull least = hull("least", Shapes.LEAST_TETRAHEDRON);
    least.side(0, 0, 0, SolidHull.SURFACE);
    least.side(1, 0, 0, SolidHull.SURFACE);
    least.side(1, 1, 0, SolidHull.OUTSIDE);
    least.side(-1, 0, 0, SolidHull.OUTSIDE);
    least.side(2, -1, 0, SolidHull.OUTSIDE);
    least.side(2, 0, 0, SolidHull.OUTSIDE);
    least.side(200, -200, 0, SolidHull.OUTSIDE);
  }

  private static void sideOfHeldPoints() {
    CHECK.sentence("Promise 6: SURFACE or INSIDE for the place of a held point, which adding and removing change");
    DueHull hull = hull("full cube", Shapes.FULL_CUBE);
    hull.side(10, 10, 10, SolidHull.SURFACE);
    hull.side(5, 5, 10, SolidHull.SURFACE);
    hull.side(5, 0, 10, SolidHull.SURFACE);
    hull.side(5, 5, 5, SolidHull.INSIDE);
    hull.side(5, 5, 11, SolidHull.OUTSIDE);
    hull.add(5, 5, 11, 11);
    hull.side(5, 5, 11, SolidHull.SURFACE);
    hull.side(5, 5, 10, SolidHull.INSIDE);
    hull.removeLast(11);
    hull.side(5, 5, 11, SolidHull.OUTSIDE);
    hull.side(5, 5, 10, SolidHull.SURFACE);
  }

  private interface Ask {
    void ask(DueHull hull, int[] place, int want);
  }

  private static void badPlaces(Ask ask) {
    for (int bad : BAD) {
      DueHull hull = hull("bad place", Shapes.CUBE);
      for (int good : new int[] {-200, 0, 200}) {
        ask.ask(hull, new int[] {bad, good, good}, SolidHull.BAD_PLACE);
        ask.ask(hull, new int[] {good, bad, good}, SolidHull.BAD_PLACE);
        ask.ask(hull, new int[] {good, good, bad}, SolidHull.BAD_PLACE);
        ask.ask(hull, new int[] {bad, bad, good}, SolidHull.BAD_PLACE);
      }
      ask.ask(hull, new int[] {bad, bad, bad}, SolidHull.BAD_PLACE);
    }
  }

  /** Every place and direction is refused, also those of held points and those at the ends. */
  private static void flats(Ask ask) {
    for (int[][] flat : Shapes.flats()) {
      DueHull hull = hull("flat set of " + flat.length, flat);
      for (int[] point : flat) {
        ask.ask(hull, point, SolidHull.FLAT);
      }
      for (int end : new int[] {-200, 0, 200}) {
        ask.ask(hull, new int[] {end, end, end}, SolidHull.FLAT);
        ask.ask(hull, new int[] {0, end, -end}, SolidHull.FLAT);
      }
    }
    DueHull hull = hull("flat after a removal", Shapes.TETRAHEDRON);
    hull.removeLast(3);
    ask.ask(hull, new int[] {1, 1, 0}, SolidHull.FLAT);
    ask.ask(hull, new int[] {0, 0, 4}, SolidHull.FLAT);
    ask.ask(hull, new int[] {200, 200, 200}, SolidHull.FLAT);
  }

  private static void sideBadPlace() {
    CHECK.sentence("Promise 6: BAD_PLACE");
    badPlaces(DueHull::side);
  }

  private static void sideFlat() {
    CHECK.sentence("Promise 6: FLAT if the set is not solid");
    flats(DueHull::side);
  }

  private static void visible() {
    CHECK.sentence("Promise 7: how many facet planes have the place on their outer side");
    DueHull hull = hull("greatest cube", Shapes.GREATEST_CUBE);
    int[] ends = {-200, -61, 0, 61, 200};
    for (int x : ends) {
      for (int y : ends) {
        for (int z : ends) {
          hull.visible(x, y, z, (x != 0 ? 1 : 0) + (y != 0 ? 1 : 0) + (z != 0 ? 1 : 0));
        }
      }
    }
  }

  private static void visibleStrictly() {
    CHECK.sentence("Promise 7: strictly on their outer side");
    DueHull hull = hull("full cube", Shapes.FULL_CUBE);
    // On the surface and inside there is none.
    int[][] none = {{10, 10, 10}, {5, 5, 10}, {5, 0, 10}, {5, 5, 5}, {0, 0, 0}, {10, 3, 10}, {1, 1, 1}, {9, 9, 9}};
    for (int[] place : none) {
      hull.visible(place, 0);
    }
    // In a facet plane, on the outer side of another.
    hull.visible(11, 10, 5, 1);
    hull.visible(11, 10, 10, 1);
    hull.visible(11, 11, 10, 2);
    hull.visible(200, 0, 0, 1);
    DueHull steep = hull("steep", Shapes.STEEP);
    steep.visible(61, 180, 178, 1);
    steep.visible(61, 181, 179, 2);
    steep.visible(59, -59, -59, 1);
    steep.visible(59, -60, -60, 0);
  }

  private static void visibleMost() {
    CHECK.sentence("Promise 7: how many facet planes: all but one of the most there can be");
    DueHull cap = hull("cap", Shapes.CAP);
    cap.visible(0, 0, 200, 23);
    cap.visible(0, 0, -31, 1);
    cap.visible(0, 0, -30, 0);
    DueHull pyramid = hull("wide pyramid", Shapes.WIDE_PYRAMID);
    pyramid.visible(0, 0, 4, 13);
    pyramid.visible(0, 0, 3, 0);
    pyramid.visible(0, 0, 200, 13);
    pyramid.visible(0, 0, -200, 1);
  }

  private static void visibleBadPlace() {
    CHECK.sentence("Promise 7: BAD_PLACE");
    badPlaces(DueHull::visible);
  }

  private static void visibleFlat() {
    CHECK.sentence("Promise 7: FLAT");
    flats(DueHull::visible);
  }

  /** The greatest values here are beyond a short, above and below zero. */
  private static void farthestGreatest() {
    CHECK.sentence("Promise 16: of the corners with the greatest value of x * dx + y * dy + z * dz");
    DueHull cube = hull("greatest cube", Shapes.GREATEST_CUBE);
    for (int corner = 0; corner < 8; corner++) {
      int dx = (corner & 1) == 0 ? -200 : 200;
      int dy = (corner & 2) == 0 ? -200 : 200;
      int dz = (corner & 4) == 0 ? -200 : 200;
      cube.farthest(dx, dy, dz, corner);
    }
    DueHull low = hull("all values below zero", new int[][] {
      {-60, -60, -60}, {-60, -60, -59}, {-60, -59, -60}, {-59, -60, -60},
    });
    low.farthest(200, 200, 200, 1);
    low.farthest(199, 200, 199, 2);
    low.farthest(200, 199, 199, 3);
    low.farthest(-200, -200, -200, 0);
    DueHull near = hull("values 1 apart", new int[][] {{0, 0, 0}, {60, 59, 0}, {59, 60, 0}, {0, 0, 60}});
    near.farthest(200, 199, 0, 1);
    near.farthest(199, 200, 0, 2);
    near.farthest(0, 0, 1, 3);
    near.farthest(0, -1, 0, 0);
  }

  private static void farthestLeastNumber() {
    CHECK.sentence("Promise 16: the one with the least number");
    DueHull cube = hull("greatest cube", Shapes.GREATEST_CUBE);
    cube.farthest(1, 0, 0, 1);
    cube.farthest(-1, 0, 0, 0);
    cube.farthest(0, 1, 0, 2);
    cube.farthest(0, -200, 0, 0);
    cube.farthest(0, 0, 200, 4);
    cube.farthest(0, 0, -1, 0);
    cube.farthest(1, 1, 0, 3);
    cube.farthest(0, 1, 1, 6);
    cube.farthest(-200, 0, 200, 4);
    DueHull turned = hull("cube in another order", new int[][] {
      {10, 10, 10}, {0, 10, 10}, {10, 0, 10}, {0, 0, 10}, {10, 10, 0}, {0, 10, 0}, {10, 0, 0}, {0, 0, 0},
    });
    turned.farthest(1, 0, 0, 0);
    turned.farthest(-1, 0, 0, 1);
    turned.farthest(0, -1, 0, 2);
    turned.farthest(0, 0, -1, 4);
    turned.farthest(0, -1, -1, 6);
  }

  private static void farthestCornersOnly() {
    CHECK.sentence("Promise 16: of the corners");
    DueHull first = hull("no corners first", new int[][] {
      {5, 5, 5}, {5, 5, 10}, {5, 0, 10}, {10, 10, 10}, {0, 0, 10}, {10, 0, 10}, {0, 10, 10},
      {0, 0, 0}, {10, 0, 0}, {0, 10, 0}, {10, 10, 0},
    });
    first.farthest(0, 0, 1, 3);
    first.farthest(0, -1, 1, 4);
    first.farthest(0, -1, 0, 4);
    first.farthest(0, 0, 0, 3);
    DueHull edge = hull("long edge", Shapes.LONG_EDGE);
    edge.farthest(0, -1, -1, 0);
    edge.farthest(1, -200, -200, 11);
    // A corner that comes to lie within an edge is none any more.
    DueHull grown = hull("grown", Shapes.TETRAHEDRON);
    grown.add(8, 0, 0, 4);
    grown.farthest(0, -1, -1, 0);
    grown.farthest(1, -200, -200, 4);
    grown.add(-8, 0, 0, 5);
    grown.farthest(0, -1, -1, 4);
    grown.farthest(-1, -200, -200, 5);
    grown.removeLast(5);
    grown.farthest(0, -1, -1, 0);
  }

  private static void farthestZero() {
    CHECK.sentence("Promise 16: with direction 0, 0, 0 all corners have the same value");
    hull("greatest cube", Shapes.GREATEST_CUBE).farthest(0, 0, 0, 0);
    hull("inner point first", new int[][] {{1, 1, 1}, {0, 0, 0}, {9, 0, 0}, {0, 9, 0}, {0, 0, 9}})
        .farthest(0, 0, 0, 1);
  }

  private static void farthestBadPlace() {
    CHECK.sentence("Promise 16: BAD_PLACE if dx, dy or dz is not from -200 to 200");
    badPlaces(DueHull::farthest);
  }

  private static void farthestFlat() {
    CHECK.sentence("Promise 16: FLAT");
    flats(DueHull::farthest);
  }
}

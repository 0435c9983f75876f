/** Promises 6, 7 and 16: side, visible and farthest. */
public final class PlaceTest {
  private static final Check CHECK = new Check();

  public static void main(String[] args) {
    sideOfCube();
    sideOfTetrahedron();
    leastTetrahedron();
    visible();
    atTheReach();
    farthest();
    farthestIsCorner();
    refusals();
    CHECK.end();
  }

  private static void side(CountedHull hull, int x, int y, int z, int want) {
    CHECK.due("side(" + x + ", " + y + ", " + z + ")", hull.side(x, y, z), want);
  }

  private static void seen(CountedHull hull, int x, int y, int z, int want) {
    CHECK.due("visible(" + x + ", " + y + ", " + z + ")", hull.visible(x, y, z), want);
  }

  private static void far(CountedHull hull, int dx, int dy, int dz, int want) {
    CHECK.due("farthest(" + dx + ", " + dy + ", " + dz + ")", hull.farthest(dx, dy, dz), want);
  }

  private static void sideOfCube() {
    for (int x = -1; x <= 11; x++) {
      CountedHull hull = Shapes.hull(Shapes.FULL_CUBE);
      for (int y = -1; y <= 11; y++) {
        for (int z = -1; z <= 11; z++) {
          int least = Math.min(x, Math.min(y, z));
          int most = Math.max(x, Math.max(y, z));
          boolean out = least < 0 || most > 10;
          boolean on = least == 0 || most == 10;
          side(hull, x, y, z, out ? SolidHull.OUTSIDE : on ? SolidHull.SURFACE : SolidHull.INSIDE);
          int count = 0;
          for (int c : new int[] {x, y, z}) {
            count += c < 0 || c > 10 ? 1 : 0;
          }
          seen(hull, x, y, z, count);
        }
      }
    }
  }

  private static void sideOfTetrahedron() {
    CountedHull hull = Shapes.hull(Shapes.TETRAHEDRON);
    side(hull, 1, 1, 1, SolidHull.INSIDE);
    side(hull, 1, 1, 2, SolidHull.SURFACE);
    side(hull, 2, 2, 0, SolidHull.SURFACE);
    side(hull, 0, 0, 4, SolidHull.SURFACE);
    side(hull, 2, 1, 2, SolidHull.OUTSIDE);
    // In a facet plane, yet beyond the hull.
    side(hull, 5, 0, 0, SolidHull.OUTSIDE);
    side(hull, -1, 0, 0, SolidHull.OUTSIDE);
    side(hull, 5, -1, 0, SolidHull.OUTSIDE);
  }

  /** Places that are off a facet plane by the least amount there can be. */
  private static void leastTetrahedron() {
    CountedHull hull = Shapes.hull(new int[][] {{0, 0, 0}, {1, 0, 0}, {0, 1, 0}, {0, 0, 1}});
    int[][] off = {{1, 1, 0}, {1, 0, 1}, {0, 1, 1}, {-1, 0, 0}, {0, -1, 0}, {0, 0, -1}};
    for (int[] p : off) {
      side(hull, p[0], p[1], p[2], SolidHull.OUTSIDE);
      seen(hull, p[0], p[1], p[2], 1);
    }
  }

  private static void visible() {
    CountedHull hull = Shapes.hull(Shapes.TETRAHEDRON);
    seen(hull, 1, 1, 1, 0);
    seen(hull, 0, 0, 0, 0);
    seen(hull, 2, 2, 0, 0);
    seen(hull, 5, 5, 5, 1);
    seen(hull, 5, 0, 0, 1);
    seen(hull, 5, -1, 0, 1);
    seen(hull, 6, -1, 0, 2);
    seen(hull, 7, -1, -1, 3);
    seen(hull, -1, -1, -1, 3);
    seen(hull, -1, 0, 0, 1);
    seen(hull, -1, -1, 0, 2);
    CountedHull most = Shapes.hull(Shapes.BIPYRAMID);
    seen(most, 2, 3, 200, 12);
    seen(most, 2, 3, -200, 12);
    seen(most, 2, 3, 5, 0);
    seen(most, 2, 3, 6, 12);
  }

  private static void atTheReach() {
    CountedHull hull = Shapes.hull(Shapes.GREATEST_CUBE);
    int[] ends = {-200, 0, 200};
    for (int x : ends) {
      for (int y : ends) {
        for (int z : ends) {
          int count = (x != 0 ? 1 : 0) + (y != 0 ? 1 : 0) + (z != 0 ? 1 : 0);
          seen(hull, x, y, z, count);
          side(hull, x, y, z, count > 0 ? SolidHull.OUTSIDE : SolidHull.INSIDE);
          far(hull, x, y, z, (x > 0 ? 1 : 0) + (y > 0 ? 2 : 0) + (z > 0 ? 4 : 0));
        }
      }
    }
    side(hull, 60, 60, 60, SolidHull.SURFACE);
    side(hull, 59, -59, 59, SolidHull.INSIDE);
    side(hull, 61, 0, 0, SolidHull.OUTSIDE);
  }

  private static void farthest() {
    CountedHull hull = Shapes.hull(Shapes.TETRAHEDRON);
    far(hull, 1, 1, 1, 1);
    far(hull, 0, 1, 1, 2);
    far(hull, 1, 2, 1, 2);
    far(hull, 1, 1, 2, 3);
    far(hull, -1, -1, -1, 0);
    far(hull, 0, 0, 0, 0);
    far(hull, -1, -1, 0, 0);
    CountedHull away = Shapes.hull(new int[][] {{-9, -9, -9}, {-5, -9, -9}, {-9, -5, -9}, {-9, -9, -4}});
    far(away, 1, 0, 0, 1);
    far(away, 1, 1, 1, 3);
    far(away, 200, 199, 0, 1);
    far(away, 199, 200, 0, 2);
  }

  /** Points that are not corners are never the answer, also where they reach as far or come first. */
  private static void farthestIsCorner() {
    CountedHull hull = Shapes.hull(new int[][] {
      {2, 0, 4}, {2, 2, 4}, {2, 2, 2}, {4, 4, 4}, {0, 0, 4}, {4, 0, 4}, {0, 4, 4},
      {0, 0, 0}, {4, 0, 0}, {0, 4, 0}, {4, 4, 0},
    });
    far(hull, 0, 0, 1, 3);
    far(hull, 0, -1, 1, 4);
    far(hull, 0, -1, 0, 4);
    far(hull, 0, 0, 0, 3);
    far(hull, 0, 0, -1, 7);
    hull.add(2, 2, 9);
    far(hull, 0, 0, 1, 11);
    hull.removeLast();
    far(hull, 0, 0, 1, 3);
  }

  private static void refusals() {
    CountedHull solid = Shapes.hull(Shapes.CUBE);
    refuseBadPlaces(solid);
    CHECK.due("size() after refusals", solid.size(), 8);
    CHECK.due("facets() after refusals", solid.facets(), 6);
    for (int[][] flat : Shapes.flats()) {
      CountedHull hull = Shapes.hull(flat);
      refuseBadPlaces(hull);
      for (int c : new int[] {-200, 0, 200}) {
        side(hull, c, 0, -c, SolidHull.FLAT);
        seen(hull, c, 0, -c, SolidHull.FLAT);
        far(hull, c, 0, -c, SolidHull.FLAT);
      }
      CHECK.due("size() after refusals", hull.size(), flat.length);
    }
  }

  private static void refuseBadPlaces(CountedHull hull) {
    for (int bad : Shapes.BAD_PLACE_COORDINATES) {
      int[][] places = {{bad, 0, 0}, {0, bad, 0}, {0, 0, bad}, {bad, bad, bad}};
      for (int[] p : places) {
        side(hull, p[0], p[1], p[2], SolidHull.BAD_PLACE);
        seen(hull, p[0], p[1], p[2], SolidHull.BAD_PLACE);
        far(hull, p[0], p[1], p[2], SolidHull.BAD_PLACE);
      }
    }
  }
}

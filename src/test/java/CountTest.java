/** Promises 8, 9, 10 and 15: facets, corners, edges and sixVolume. */
public final class CountTest {
  private static final Check CHECK = new Check();

  public static void main(String[] args) {
    counts("tetrahedron", Shapes.hull(Shapes.TETRAHEDRON), 4, 4, 6, 64);
    counts("least", Shapes.hull(new int[][] {{0, 0, 0}, {1, 0, 0}, {0, 1, 0}, {0, 0, 1}}), 4, 4, 6, 1);
    counts("mirrored", Shapes.hull(new int[][] {{0, 0, 0}, {0, 1, 0}, {1, 0, 0}, {0, 0, 1}}), 4, 4, 6, 1);
    counts("cube", Shapes.hull(Shapes.CUBE), 6, 8, 12, 6000);
    counts("full cube", Shapes.hull(Shapes.FULL_CUBE), 6, 8, 12, 6000);
    counts("greatest cube", Shapes.hull(Shapes.GREATEST_CUBE), 6, 8, 12, 6 * 120 * 120 * 120);
    counts("bipyramid", Shapes.hull(Shapes.BIPYRAMID), 24, 14, 36, 480);
    // Twice the area of its base is 43.
    counts("pyramid", Shapes.hull(Shapes.PYRAMID), 11, 11, 20, 43 * 7);
    pointZeroAnywhere();
    growing();
    flats();
    CHECK.end();
  }

  private static void counts(String name, CountedHull hull, int facets, int corners, int edges, int sixVolume) {
    CHECK.due(name + ": facets()", hull.facets(), facets);
    CHECK.due(name + ": corners()", hull.corners(), corners);
    CHECK.due(name + ": edges()", hull.edges(), edges);
    CHECK.due(name + ": sixVolume()", hull.sixVolume(), sixVolume);
  }

  /** The least point may lie within, in a face or in an edge, and its face may start with it. */
  private static void pointZeroAnywhere() {
    int[][] firsts = {{5, 5, 5}, {5, 5, 10}, {5, 0, 10}, {1, 9, 3}, {0, 3, 3}, {10, 10, 9}};
    for (int[] first : firsts) {
      CountedHull hull = new CountedHull(14);
      hull.add(first[0], first[1], first[2]);
      for (int[] point : Shapes.CUBE) {
        hull.add(point[0], point[1], point[2]);
      }
      counts("cube with point 0 elsewhere", hull, 6, 8, 12, 6000);
    }
  }

  private static void growing() {
    CountedHull hull = Shapes.hull(Shapes.FULL_CUBE);
    hull.add(5, 5, 20);
    counts("cube with a roof", hull, 9, 9, 16, 8000);
    hull.removeLast();
    counts("without the roof", hull, 6, 8, 12, 6000);
    // The new corner lies in the planes of two faces of the cube: they grow, and corner 7 is in their edge.
    hull.add(20, 10, 10);
    counts("cube with a long corner", hull, 7, 8, 13, 6000 + 2000);
    hull.removeLast();
    hull.removeLast();
    hull.removeLast();
    hull.removeLast();
    counts("cube again", hull, 6, 8, 12, 6000);
  }

  private static void flats() {
    for (int[][] flat : Shapes.flats()) {
      CountedHull hull = Shapes.hull(flat);
      int flatAnswer = SolidHull.FLAT;
      counts("flat set of " + flat.length, hull, flatAnswer, flatAnswer, flatAnswer, flatAnswer);
      CHECK.due("size() after refusals", hull.size(), flat.length);
    }
  }
}

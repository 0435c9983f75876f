/** Sets of points that the tests share. */
final class Shapes {
  static final int[] BAD_POINT_COORDINATES = {-61, 61, -200, 200, Integer.MIN_VALUE, Integer.MAX_VALUE};
  static final int[] BAD_PLACE_COORDINATES = {-201, 201, -65536, 65536, Integer.MIN_VALUE, Integer.MAX_VALUE};

  static final int[][] TETRAHEDRON = {{0, 0, 0}, {4, 0, 0}, {0, 4, 0}, {0, 0, 4}};

  static final int[][] CUBE = {
    {0, 0, 0}, {10, 0, 0}, {0, 10, 0}, {10, 10, 0},
    {0, 0, 10}, {10, 0, 10}, {0, 10, 10}, {10, 10, 10},
  };

  /** The cube and a point in a face (8), in an edge (9) and within (10). */
  static final int[][] FULL_CUBE = {
    {0, 0, 0}, {10, 0, 0}, {0, 10, 0}, {10, 10, 0},
    {0, 0, 10}, {10, 0, 10}, {0, 10, 10}, {10, 10, 10},
    {5, 5, 10}, {5, 0, 10}, {5, 5, 5},
  };

  static final int[][] GREATEST_CUBE = {
    {-60, -60, -60}, {60, -60, -60}, {-60, 60, -60}, {60, 60, -60},
    {-60, -60, 60}, {60, -60, 60}, {-60, 60, 60}, {60, 60, 60},
  };

  /** Two tips above and below a polygon of 12 corners: 14 points with 24 facets, the most there can be. */
  static final int[][] BIPYRAMID = {
    {0, 0, 0}, {1, 0, 0}, {3, 1, 0}, {4, 2, 0}, {5, 4, 0}, {5, 5, 0},
    {4, 6, 0}, {3, 6, 0}, {1, 5, 0}, {0, 4, 0}, {-1, 2, 0}, {-1, 1, 0},
    {2, 3, 5}, {2, 3, -5},
  };

  /** A tip (2) over a polygon of 10 corners, whose points are not given in the order around it. */
  static final int[][] PYRAMID = {
    {0, 0, 0}, {3, 6, 0}, {2, 3, 7}, {5, 4, 0}, {0, 4, 0}, {3, 1, 0},
    {1, 0, 0}, {1, 5, 0}, {4, 2, 0}, {5, 5, 0}, {4, 6, 0},
  };

  private Shapes() {}

  static SolidHull hull(int[][] points) {
    return hull(points, points.length);
  }

  /** A hull with room for 14 points that holds the first so many of the given ones. */
  static SolidHull hull(int[][] points, int count) {
    SolidHull hull = new SolidHull(14);
    for (int i = 0; i < count; i++) {
      if (hull.add(points[i][0], points[i][1], points[i][2]) != i) {
        throw new IllegalStateException("point " + i + " is refused");
      }
    }
    return hull;
  }

  /** Sets that are not solid: nothing, one point, two, a line, a triangle, a plane that is oblique. */
  static int[][][] flats() {
    return new int[][][] {
      {},
      {{1, 2, 3}},
      {{1, 2, 3}, {-4, 5, 6}},
      {{0, 0, 0}, {1, 2, 3}, {2, 4, 6}, {-10, -20, -30}, {20, 40, 60}},
      {{0, 0, 0}, {5, 0, 0}, {0, 5, 0}},
      {{0, 0, 0}, {5, 0, 0}, {0, 5, 0}, {5, 5, 0}, {2, 2, 0}, {60, -60, 0}},
      {{60, 0, 0}, {0, 60, 0}, {0, 0, 60}, {20, 20, 20}, {-60, 60, 60}, {30, 30, 0}, {1, 1, 58}},
    };
  }
}

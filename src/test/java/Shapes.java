/** Sets of points that the tests share. */
final class Shapes {
  static final int[] BAD_POINT_COORDINATES = {-61, 61, -200, 200, Integer.MIN_VALUE, Integer.MAX_VALUE};
  static final int[] BAD_PLACE_COORDINATES = {-201, 201, -65536, 65536, Integer.MIN_VALUE, Integer.MAX_VALUE};

  static final int[][] TETRAHEDRON = {{0, 0, 0}, {4, 0, 0}, {0, 4, 0}, {0, 0, 4}};

  static final int[][] CUBE = {
    {0, 0, 0}, {10, 0, 0}, {0, 10, 0}, {10, 10, 0},
    {0, 0, 10}, {10, 0, 10}, {0, 10, 10}, {10, 10, 10},
  };

  /** The cube and a point in a face (8), in an edge (9) and within (10). */
  static final int[][] FULL_CUBE = {
    {0, 0, 0}, {10, 0, 0}, {0, 10, 0}, {10, 10, 0},
    {0, 0, 10}, {10, 0, 10}, {0, 10, 10}, {10, 10, 10},
    {5, 5, 10}, {5, 0, 10}, {5, 5, 5},
  };

  static final int[][] GREATEST_CUBE = {
    {-60, -60, -60}, {60, -60, -60}, {-60, 60, -60}, {60, 60, -60},
    {-60, -60, 60}, {60, -60, 60}, {-60, 60, 60}, {60, 60, 60},
  };

  /** Two tips above and below a polygon of 12 corners: 14 points with 24 facets, the most there can be. */
  static final int[][] BIPYRAMID = {
    {0, 0, 0}, {1, 0, 0}, {3, 1, 0}, {4, 2, 0}, {5, 4, 0}, {5, 5, 0},
    {4, 6, 0}, {3, 6, 0}, {1, 5, 0}, {0, 4, 0}, {-1, 2, 0}, {-1, 1, 0},
    {2, 3, 5}, {2, 3, -5},
  };

  /** A tip (2) over a polygon of 10 corners, whose points are not given in the order around it. */
  static final int[][] PYRAMID = {
    {0, 0, 0}, {3, 6, 0}, {2, 3, 7}, {5, 4, 0}, {0, 4, 0}, {3, 1, 0},
    {1, 0, 0}, {1, 5, 0}, {4, 2, 0}, {5, 5, 0}, {4, 6, 0},
  };

  /** Six times its volume is 1, the least there can be. */
  static final int[][] LEAST_TETRAHEDRON = {{0, 0, 0}, {1, 0, 0}, {0, 1, 0}, {0, 0, 1}};

  /** Every second corner of the greatest cube: six times its volume is twice the cube of 120. */
  static final int[][] GREATEST_TETRAHEDRON = {{60, 60, 60}, {60, -60, -60}, {-60, 60, -60}, {-60, -60, 60}};

  /**
   * The plane of points 0, 1 and 2 has the outer normal (-14281, 14162, -14161), whose numbers have no
   * common divisor, so that places come as near to it as they can without being in it.
   */
  static final int[][] STEEP = {{60, 60, 59}, {59, -60, -60}, {-59, -59, 60}, {60, -60, 60}};

  /** A tip (13) over a polygon of 13 corners: a facet plane with as many points as there can be. */
  static final int[][] WIDE_PYRAMID = {
    {10, 0, 0}, {9, 5, 0}, {6, 8, 0}, {1, 10, 0}, {-4, 9, 0}, {-7, 7, 0}, {-10, 2, 0}, {-10, -2, 0},
    {-7, -7, 0}, {-4, -9, 0}, {1, -10, 0}, {6, -8, 0}, {9, -5, 0}, {0, 0, 3},
  };

  /** A triangle (0, 1, 2) with a cap of 11 corners over it: from far above all its 24 facets but one are seen. */
  static final int[][] CAP = {
    {-60, -40, -30}, {60, -40, -30}, {0, 60, -30}, {-21, -21, 0}, {13, 11, 14}, {-8, 5, 18}, {10, -26, 3},
    {7, 23, 7}, {11, -14, 13}, {2, 24, 7}, {-18, 21, 3}, {-8, -1, 19}, {6, -15, 14}, {-23, -5, 8},
  };

  /** Twelve points (0 to 11) in one edge of a tetrahedron. */
  static final int[][] LONG_EDGE = {
    {0, 0, 0}, {1, 0, 0}, {2, 0, 0}, {3, 0, 0}, {4, 0, 0}, {5, 0, 0}, {6, 0, 0}, {7, 0, 0}, {8, 0, 0},
    {9, 0, 0}, {10, 0, 0}, {11, 0, 0}, {0, 5, 0}, {0, 0, 5},
  };

  private Shapes() {}

  static CountedHull hull(int[][] points) {
    return hull(points, points.length);
  }

  /** A hull with room for 14 points that holds the first so many of the given ones. */
  static CountedHull hull(int[][] points, int count) {
    CountedHull hull = new CountedHull(14);
    for (int i = 0; i < count; i++) {
      if (hull.add(points[i][0], points[i][1], points[i][2]) != i) {
        throw new IllegalStateException("point " + i + " is refused");
      }
    }
    return hull;
  }

  /** Fourteen points in the plane 7x - 11y + 13z = 0. */
  static int[][] fullPlane() {
    int[][] points = new int[14][];
    for (int i = 0; i < 14; i++) {
      int u = i / 4 - 1;
      int v = i % 4 - 2;
      points[i] = new int[] {11 * u, 7 * u + 13 * v, 11 * v};
    }
    return points;
  }

  static int[][] fullLine() {
    int[][] points = new int[14][];
    for (int i = 0; i < 14; i++) {
      int step = i - 7;
      points[i] = new int[] {4 * step, 8 * step, -8 * step};
    }
    return points;
  }

  /**
   * Sets that are not solid: nothing, one point, two, a line, a triangle, four points and more in a plane,
   * and as many points in a plane and in a line as can be held.
   */
  static int[][][] flats() {
    return new int[][][] {
      {},
      {{1, 2, 3}},
      {{1, 2, 3}, {-4, 5, 6}},
      {{0, 0, 0}, {1, 2, 3}, {2, 4, 6}, {-10, -20, -30}, {20, 40, 60}},
      {{0, 0, 0}, {5, 0, 0}, {0, 5, 0}},
      {{0, 0, 0}, {5, 0, 0}, {0, 5, 0}, {5, 5, 0}, {2, 2, 0}, {60, -60, 0}},
      {{60, 0, 0}, {0, 60, 0}, {0, 0, 60}, {20, 20, 20}, {-60, 60, 60}, {30, 30, 0}, {1, 1, 58}},
      {{-60, -60, -60}, {60, 60, 60}, {-60, -60, 60}, {60, 60, -60}},
      fullPlane(),
      fullLine(),
    };
  }
}

/** The boundary cases in the sentences of 'Terms'; the refusals have RefusalBoundaryTest. */
public final class TermsBoundaryTest {
  private static final Check CHECK = new Check();

  public static void main(String[] args) {
    pointCoordinates();
    atMostFourteen();
    numbers();
    noTwoTheSame();
    solid();
    hullContainsItsPoints();
    threeInOneLine();
    facetPlane();
    outerSide();
    pointsInThePlane();
    planesCountOnce();
    outside();
    surface();
    inside();
    corner();
    edge();
    greatNumbers();
    placeCoordinates();
    placeNeedNotBeAPoint();
    CHECK.end();
  }

  private static DueHull hull(String name, int[][] points) {
    return new DueHull(CHECK, name, points);
  }

  private static void pointCoordinates() {
    CHECK.sentence("Terms: points have three int coordinates, each from -60 to 60");
    int[] ends = {-60, 0, 60};
    for (int x : ends) {
      DueHull hull = new DueHull(CHECK, "points at the ends", 14);
      int number = 0;
      for (int y : ends) {
        for (int z : ends) {
          hull.add(x, y, z, number);
          number++;
        }
      }
      hull.size(9);
    }
    DueHull beyond = new DueHull(CHECK, "points beyond the ends", 14);
    for (int end : new int[] {-61, 61}) {
      for (int other : ends) {
        beyond.add(end, other, other, SolidHull.BAD_PLACE);
        beyond.add(other, end, other, SolidHull.BAD_PLACE);
        beyond.add(other, other, end, SolidHull.BAD_PLACE);
      }
    }
    beyond.size(0);
  }

  private static void atMostFourteen() {
    CHECK.sentence("Terms: at most 14 points are held");
    for (int room : new int[] {14, 15, 100, Integer.MAX_VALUE}) {
      DueHull hull = new DueHull(CHECK, "room " + room, room);
      hull.hold(Shapes.BIPYRAMID);
      hull.size(14);
      hull.corner(13, 1);
      hull.add(60, 60, 60, SolidHull.NO_ROOM);
      hull.size(14);
      hull.corner(14, SolidHull.BAD_POINT);
    }
  }

  /** farthest tells which point has which number. */
  private static void numbers() {
    CHECK.sentence("Terms: numbered 0, 1, 2 .. in the order in which they were added");
    int[][] axes = {{60, 0, 0}, {0, 60, 0}, {0, 0, 60}, {-60, 0, 0}, {0, -60, 0}, {0, 0, -60}};
    DueHull hull = new DueHull(CHECK, "octahedron", 14);
    for (int i = 0; i < axes.length; i++) {
      hull.add(61, 61, 61, SolidHull.BAD_PLACE);
      hull.add(axes[i], i);
      hull.add(axes[i], SolidHull.ALREADY);
    }
    for (int i = 0; i < axes.length; i++) {
      hull.farthest(axes[i], i);
    }
    hull.removeLast(5);
    hull.removeLast(4);
    hull.add(0, 0, -60, 4);
    hull.add(0, -60, 0, 5);
    hull.farthest(0, 0, -1, 4);
    hull.farthest(0, -1, 0, 5);
    hull.farthest(-1, 0, 0, 3);
  }

  private static void noTwoTheSame() {
    CHECK.sentence("Terms: no two are the same");
    DueHull hull = hull("bipyramid", Shapes.BIPYRAMID);
    hull.removeLast(13);
    for (int i = 0; i < 13; i++) {
      hull.add(Shapes.BIPYRAMID[i], SolidHull.ALREADY);
    }
    hull.size(13);
    // The same three numbers in other orders and with other signs are other points.
    hull("orders", new int[][] {{1, 2, 3}, {1, 3, 2}, {2, 1, 3}, {2, 3, 1}, {3, 1, 2}, {3, 2, 1}}).size(6);
    hull("signs", new int[][] {
      {1, 2, 3}, {-1, 2, 3}, {1, -2, 3}, {1, 2, -3}, {-1, -2, 3}, {-1, 2, -3}, {1, -2, -3}, {-1, -2, -3},
    }).size(8);
    hull("ends and beginnings", new int[][] {{60, 0, 0}, {-60, 1, 0}, {-60, 0, 1}, {60, -1, 0}, {60, 0, -1}}).size(5);
    hull("one coordinate apart", new int[][] {{7, 7, 7}, {7, 7, 8}, {7, 8, 7}, {8, 7, 7}}).size(4);
  }

  private static void solid() {
    CHECK.sentence("Terms: the set is solid if it holds four points that do not lie in one plane");
    for (int[][] flat : Shapes.flats()) {
      hull("flat set of " + flat.length, flat).solid(false);
    }
    DueHull plane = hull("full plane", Shapes.fullPlane());
    plane.removeLast(13);
    // 7x - 11y + 13z is 1, -1 and 0 here.
    plane.add(8, 5, 0, 13);
    plane.solid(true);
    plane.removeLast(13);
    plane.add(-8, -5, 0, 13);
    plane.solid(true);
    plane.removeLast(13);
    plane.add(33, 21, 0, 13);
    plane.solid(false);
    DueHull line = hull("full line", Shapes.fullLine());
    line.removeLast(13);
    line.removeLast(12);
    line.add(60, 0, 0, 12);
    line.solid(false);
    line.add(60, 0, 1, 13);
    line.solid(true);
    hull("least", Shapes.LEAST_TETRAHEDRON).solid(true);
    DueHull steep = hull("steep", new int[][] {Shapes.STEEP[0], Shapes.STEEP[1], Shapes.STEEP[2]});
    steep.solid(false);
    steep.add(59, -59, -59, 3);
    steep.solid(true);
    steep.sixVolume(1);
    steep.removeLast(3);
    steep.add(60, 59, 58, 3);
    steep.solid(true);
    steep.sixVolume(1);
  }

  private static void hullContainsItsPoints() {
    CHECK.sentence("Terms: the hull contains all points, and every mean of them with weights that are not negative");
    int[][][] sets = {
      Shapes.BIPYRAMID, Shapes.CAP, Shapes.WIDE_PYRAMID, Shapes.LONG_EDGE, Shapes.GREATEST_CUBE, Shapes.STEEP,
    };
    for (int[][] set : sets) {
      DueHull hull = hull("set of " + set.length, set);
      for (int[] point : set) {
        hull.side(point, SolidHull.SURFACE);
        hull.visible(point, 0);
      }
    }
    DueHull octahedron = octahedron();
    octahedron.side(0, 0, 0, SolidHull.INSIDE);
    octahedron.side(2, 2, 0, SolidHull.SURFACE);
    octahedron.side(1, 1, 2, SolidHull.SURFACE);
    octahedron.side(3, 0, 0, SolidHull.INSIDE);
    octahedron.side(5, 0, 0, SolidHull.OUTSIDE);
    octahedron.side(2, 2, 1, SolidHull.OUTSIDE);
  }

  private static DueHull octahedron() {
    return hull("octahedron", new int[][] {
      {4, 0, 0}, {-4, 0, 0}, {0, 4, 0}, {0, -4, 0}, {0, 0, 4}, {0, 0, -4},
    });
  }

  /** Three points in one line come first, where they could spoil a search that starts with them. */
  private static void threeInOneLine() {
    CHECK.sentence("Terms: for three points of the set that are not in one line, take the plane through them");
    int[][][] lines = {
      {{4, 5, 5}, {5, 5, 5}, {6, 5, 5}},
      {{2, 2, 0}, {4, 4, 0}, {6, 6, 0}},
      {{0, 0, 2}, {0, 0, 4}, {0, 0, 9}},
      {{1, 1, 1}, {2, 2, 2}, {9, 9, 9}},
    };
    for (int[][] line : lines) {
      DueHull hull = hull("line", line);
      for (int i = 0; i < 8; i++) {
        hull.add(Shapes.CUBE[i], 3 + i);
      }
      hull.facets(6);
      hull.corners(8);
      hull.edges(12);
      hull.sixVolume(6000);
      hull.visible(11, 5, 5, 1);
      hull.visible(-1, 11, -1, 3);
      hull.touching(3, 3);
    }
    DueHull edge = hull("long edge", Shapes.LONG_EDGE);
    edge.facets(4);
    edge.corners(4);
    edge.edges(6);
    edge.sixVolume(275);
    edge.visible(5, -1, -1, 2);
  }

  /** A plane with points on both sides is none, also with one point on each and all others in it. */
  private static void facetPlane() {
    CHECK.sentence("Terms: if no point of the set lies strictly on one of its two sides, it is a facet plane");
    DueHull octahedron = octahedron();
    octahedron.facets(8);
    octahedron.touching(0, 4);
    octahedron.shared(0, 1, 0);
    octahedron.visible(200, 200, 200, 4);
    octahedron.visible(5, 0, 0, 4);
    DueHull bipyramid = hull("bipyramid", Shapes.BIPYRAMID);
    bipyramid.facets(24);
    bipyramid.touching(0, 4);
    bipyramid.shared(0, 6, 0);
    // One point more, just below the base, and the base is a facet plane no longer.
    DueHull pyramid = hull("pyramid", Shapes.PYRAMID);
    pyramid.shared(0, 1, 1);
    pyramid.facets(11);
    pyramid.add(2, 3, -1, 11);
    pyramid.shared(0, 1, 0);
    pyramid.facets(20);
    pyramid.removeLast(11);
    pyramid.facets(11);
  }

  /** Whatever the order of the points is, the outer side is the one where none lies. */
  private static void outerSide() {
    CHECK.sentence("Terms: the side where no point lies is its outer side");
    for (int order = 0; order < 256; order++) {
      int a = order % 4;
      int b = order / 4 % 4;
      int c = order / 16 % 4;
      int d = order / 64;
      if ((1 << a | 1 << b | 1 << c | 1 << d) == 15) {
        int[][] set = Shapes.TETRAHEDRON;
        DueHull hull = hull("order " + a + b + c + d, new int[][] {set[a], set[b], set[c], set[d]});
        hull.facets(4);
        hull.visible(2, 2, 2, 1);
        hull.visible(-1, 1, 1, 1);
        hull.visible(1, -1, 1, 1);
        hull.visible(1, 1, -1, 1);
        hull.visible(1, 1, 1, 0);
        hull.side(1, 1, 1, SolidHull.INSIDE);
      }
    }
  }

  private static void pointsInThePlane() {
    CHECK.sentence("Terms: points of the set that lie in the plane itself are on neither side");
    DueHull pyramid = hull("13 points in a plane", Shapes.WIDE_PYRAMID);
    pyramid.facets(14);
    pyramid.visible(0, 0, -1, 1);
    for (int p = 0; p < 13; p++) {
      pyramid.shared(p, (p + 5) % 13, 1);
    }
    pyramid.touching(0, 3);
    DueHull cube = hull("a point in a face, in an edge and within", Shapes.FULL_CUBE);
    cube.facets(6);
    cube.touching(8, 1);
    cube.touching(9, 2);
    cube.touching(10, 0);
  }

  private static void planesCountOnce() {
    CHECK.sentence("Terms: different triples may give the same plane: it counts once");
    DueHull pyramid = hull("286 triples in a plane", Shapes.WIDE_PYRAMID);
    pyramid.facets(14);
    pyramid.visible(0, 0, -200, 1);
    pyramid.touching(0, 3);
    pyramid.shared(0, 6, 1);
    pyramid.sixVolume(608 * 3);
    // Ten points in the upper face; triples of three sizes.
    DueHull face = hull("cube", Shapes.CUBE);
    int[][] more = {{5, 5, 10}, {5, 0, 10}, {5, 10, 10}, {0, 5, 10}, {10, 5, 10}, {4, 6, 10}};
    for (int i = 0; i < 6; i++) {
      face.add(more[i], 8 + i);
    }
    face.facets(6);
    face.visible(5, 5, 11, 1);
    face.touching(8, 1);
    face.touching(9, 2);
    face.shared(8, 13, 1);
    face.sixVolume(6000);
    // Parallel planes are different ones, also where their normals are the same.
    DueHull slab = hull("slab", new int[][] {
      {0, 0, 0}, {1, 0, 0}, {0, 1, 0}, {1, 1, 0}, {0, 0, 1}, {1, 0, 1}, {0, 1, 1}, {1, 1, 1},
    });
    slab.facets(6);
    slab.touching(0, 3);
  }

  private static void outside() {
    CHECK.sentence("Terms: outside if it lies strictly on the outer side of at least one facet plane");
    DueHull cube = hull("cube", Shapes.CUBE);
    int[][] beyond = {{11, 5, 5}, {-1, 5, 5}, {5, 11, 5}, {5, -1, 5}, {5, 5, 11}, {5, 5, -1}};
    for (int[] place : beyond) {
      cube.side(place, SolidHull.OUTSIDE);
    }
    // In one, two and three facet planes, and outside of another.
    cube.side(11, 10, 5, SolidHull.OUTSIDE);
    cube.side(11, 10, 10, SolidHull.OUTSIDE);
    cube.side(0, 0, 11, SolidHull.OUTSIDE);
    DueHull steep = hull("steep", Shapes.STEEP);
    steep.side(59, -59, -59, SolidHull.OUTSIDE);
    steep.visible(59, -59, -59, 1);
    steep.side(61, 180, 178, SolidHull.OUTSIDE);
    steep.side(-178, -178, 61, SolidHull.OUTSIDE);
  }

  private static void surface() {
    CHECK.sentence("Terms: on the surface if strictly on the outer side of none, and in at least one facet plane");
    DueHull cube = hull("cube", Shapes.CUBE);
    int[][] on = {
      {10, 5, 5}, {0, 5, 5}, {5, 10, 5}, {5, 0, 5}, {5, 5, 10}, {5, 5, 0}, {1, 1, 0}, {9, 9, 10},
      {10, 10, 5}, {10, 0, 1}, {0, 0, 9}, {10, 10, 10}, {0, 0, 0}, {10, 0, 10},
    };
    for (int[] place : on) {
      cube.side(place, SolidHull.SURFACE);
      cube.visible(place, 0);
    }
    DueHull oblique = oblique();
    oblique.side(20, 20, 20, SolidHull.SURFACE);
    oblique.side(1, 1, 58, SolidHull.SURFACE);
    oblique.side(30, 30, 0, SolidHull.SURFACE);
    oblique.side(20, 20, 21, SolidHull.OUTSIDE);
    oblique.side(31, 30, 0, SolidHull.OUTSIDE);
  }

  private static void inside() {
    CHECK.sentence("Terms: else it is inside");
    DueHull cube = hull("cube", Shapes.CUBE);
    int[][] within = {{1, 1, 1}, {9, 9, 9}, {9, 5, 5}, {1, 5, 5}, {5, 5, 9}, {5, 5, 1}, {1, 9, 1}};
    for (int[] place : within) {
      cube.side(place, SolidHull.INSIDE);
      cube.visible(place, 0);
    }
    DueHull oblique = oblique();
    oblique.side(20, 20, 19, SolidHull.INSIDE);
    oblique.side(1, 1, 57, SolidHull.INSIDE);
    oblique.side(0, 0, 0, SolidHull.INSIDE);
    oblique.side(-59, -59, -59, SolidHull.INSIDE);
  }

  /** One of its facet planes is x + y + z = 60. */
  private static DueHull oblique() {
    return hull("oblique", new int[][] {{60, 0, 0}, {0, 60, 0}, {0, 0, 60}, {-60, -60, -60}});
  }

  private static void corner() {
    CHECK.sentence("Terms: a point of the set is a corner if it lies in at least three different facet planes");
    DueHull cube = hull("planes 3, 1, 2 and 0", Shapes.FULL_CUBE);
    cube.corner(7, 1);
    cube.corner(8, 0);
    cube.corner(9, 0);
    cube.corner(10, 0);
    cube.corners(8);
    DueHull pyramid = hull("planes 13", Shapes.WIDE_PYRAMID);
    pyramid.corner(13, 1);
    pyramid.corner(0, 1);
    // Points within an edge lie in many triples, yet in two planes only.
    DueHull edge = hull("long edge", Shapes.LONG_EDGE);
    for (int p = 0; p < 14; p++) {
      edge.corner(p, p == 0 || p >= 11 ? 1 : 0);
    }
  }

  private static void edge() {
    CHECK.sentence("Terms: two different corners make an edge if at least two different facet planes contain both");
    DueHull cube = hull("cube", Shapes.FULL_CUBE);
    cube.edge(4, 5, 1);
    cube.edge(4, 7, 0);
    cube.edge(0, 7, 0);
    cube.edge(4, 4, 0);
    // Both planes contain these pairs too, but one of the two or neither is a corner.
    DueHull edge = hull("long edge", Shapes.LONG_EDGE);
    for (int a = 0; a < 12; a++) {
      for (int b = 0; b < 12; b++) {
        edge.edge(a, b, a + b == 11 && a * b == 0 ? 1 : 0);
      }
    }
    edge.shared(3, 4, 2);
    edge.shared(0, 3, 2);
    edge.edges(6);
  }

  private static void greatNumbers() {
    CHECK.sentence("Terms: none of the numbers below goes beyond an int");
    DueHull cube = hull("greatest cube", Shapes.GREATEST_CUBE);
    cube.sixVolume(10368000);
    cube.visible(200, 200, 200, 3);
    cube.visible(-200, -200, -200, 3);
    DueHull tetrahedron = hull("greatest tetrahedron", Shapes.GREATEST_TETRAHEDRON);
    tetrahedron.sixVolume(3456000);
    tetrahedron.facets(4);
    tetrahedron.visible(200, 200, 200, 3);
    tetrahedron.visible(-200, -200, -200, 1);
    tetrahedron.visible(200, -200, 200, 1);
    tetrahedron.side(-20, -20, -20, SolidHull.SURFACE);
    tetrahedron.side(-21, -20, -20, SolidHull.OUTSIDE);
    tetrahedron.side(-19, -20, -20, SolidHull.INSIDE);
    steepNumbers();
  }

  /** Places far away, by 1 above, in and by 1 below the plane of points 0, 1 and 2. */
  private static void steepNumbers() {
    DueHull steep = hull("steep", Shapes.STEEP);
    steep.sixVolume(1713601);
    steep.visible(-178, -177, 62, 3);
    steep.visible(61, 181, 179, 2);
    steep.visible(177, -60, -179, 2);
    steep.visible(61, 180, 178, 1);
    steep.visible(177, -61, -180, 1);
    steep.visible(-178, -179, 60, 1);
    steep.visible(60, 59, 58, 1);
    steep.visible(20, -20, 20, 0);
    steep.side(20, -20, 20, SolidHull.INSIDE);
  }

  private static void placeCoordinates() {
    CHECK.sentence("Terms: coordinates of a place or a direction: each must be from -200 to 200");
    DueHull cube = hull("cube", Shapes.GREATEST_CUBE);
    for (int end : new int[] {-200, 200}) {
      int above = end > 0 ? 1 : 0;
      int beyond = end > 0 ? 201 : -201;
      for (int axis = 0; axis < 3; axis++) {
        int[] place = new int[3];
        place[axis] = end;
        cube.side(place, SolidHull.OUTSIDE);
        cube.visible(place, 1);
        cube.farthest(place, above << axis);
        place[axis] = beyond;
        cube.side(place, SolidHull.BAD_PLACE);
        cube.visible(place, SolidHull.BAD_PLACE);
        cube.farthest(place, SolidHull.BAD_PLACE);
      }
    }
  }

  private static void placeNeedNotBeAPoint() {
    CHECK.sentence("Terms: the place need not be a point of the set");
    DueHull cube = hull("cube", Shapes.GREATEST_CUBE);
    cube.side(61, 0, 0, SolidHull.OUTSIDE);
    cube.side(0, 0, 0, SolidHull.INSIDE);
    cube.side(60, 1, 2, SolidHull.SURFACE);
    cube.visible(0, 0, 61, 1);
    cube.visible(1, 2, 3, 0);
    cube.size(8);
    cube.side(60, 60, 60, SolidHull.SURFACE);
    cube.visible(60, 60, 60, 0);
  }
}

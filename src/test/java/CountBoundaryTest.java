/** The boundary cases in the sentences of promises 8, 9, 10 and 15: facets, corners, edges and sixVolume. */
public final class CountBoundaryTest {
  private static final Check CHECK = new Check();

  public static void main(String[] args) {
    facets();
    facetsFlat();
    corners();
    cornersFlat();
    edges();
    edgesFlat();
    sixVolumeLeast();
    sixVolumeGreatest();
    sixVolumeOrders();
    sixVolumeOfTheHull();
    sixVolumeFlat();
    CHECK.end();
  }

  private static DueHull hull(String name, int[][] points) {
    return new DueHull(CHECK, name, points);
  }

  private interface Ask {
    void ask(DueHull hull, int want);
  }

  private static void flats(Ask ask) {
    for (int[][] flat : Shapes.flats()) {
      ask.ask(hull("flat set of " + flat.length, flat), SolidHull.FLAT);
    }
    DueHull hull = hull("flat after a removal", Shapes.CUBE);
    for (int left = 7; left >= 4; left--) {
      hull.removeLast(left);
    }
    ask.ask(hull, SolidHull.FLAT);
    for (int left = 3; left >= 0; left--) {
      hull.removeLast(left);
      ask.ask(hull, SolidHull.FLAT);
    }
    hull.removeLast(SolidHull.EMPTY);
    ask.ask(hull, SolidHull.FLAT);
  }

  private static void facets() {
    CHECK.sentence("Promise 8: the number of different facet planes");
    hull("least number", Shapes.TETRAHEDRON).facets(4);
    hull("least number", Shapes.STEEP).facets(4);
    hull("greatest number", Shapes.BIPYRAMID).facets(24);
    hull("greatest number", Shapes.CAP).facets(24);
    hull("full cube", Shapes.FULL_CUBE).facets(6);
    hull("long edge", Shapes.LONG_EDGE).facets(4);
    DueHull cap = hull("cap, shrinking", Shapes.CAP);
    // All points of the cap are in general position and stay corners: 2n - 4.
    for (int left = 13; left >= 4; left--) {
      cap.removeLast(left);
      cap.facets(2 * left - 4);
    }
    DueHull pyramid = hull("wide pyramid", Shapes.WIDE_PYRAMID);
    pyramid.facets(14);
    pyramid.removeLast(13);
    pyramid.facets(SolidHull.FLAT);
    pyramid.add(0, 0, -1, 13);
    pyramid.facets(14);
  }

  private static void facetsFlat() {
    CHECK.sentence("Promise 8: FLAT");
    flats(DueHull::facets);
  }

  private static void corners() {
    CHECK.sentence("Promise 9: the number of corners");
    hull("least number", Shapes.TETRAHEDRON).corners(4);
    hull("greatest number", Shapes.BIPYRAMID).corners(14);
    hull("greatest number", Shapes.WIDE_PYRAMID).corners(14);
    hull("full cube", Shapes.FULL_CUBE).corners(8);
    hull("long edge", Shapes.LONG_EDGE).corners(4);
    DueHull hull = hull("hidden by a greater one", Shapes.TETRAHEDRON);
    int[] due = {5, 5, 4, 4};
    for (int i = 0; i < 4; i++) {
      hull.add(Shapes.GREATEST_TETRAHEDRON[i], 4 + i);
      hull.corners(due[i]);
    }
    for (int i = 2; i >= 0; i--) {
      hull.removeLast(5 + i);
      hull.corners(due[i]);
    }
  }

  private static void cornersFlat() {
    CHECK.sentence("Promise 9: FLAT");
    flats(DueHull::corners);
  }

  private static void edges() {
    CHECK.sentence("Promise 10: the number of edges (unordered pairs of corners that make one)");
    hull("least number", Shapes.TETRAHEDRON).edges(6);
    hull("greatest number", Shapes.BIPYRAMID).edges(36);
    hull("greatest number", Shapes.CAP).edges(36);
    hull("wide pyramid", Shapes.WIDE_PYRAMID).edges(26);
    hull("full cube", Shapes.FULL_CUBE).edges(12);
    // Twelve points in one edge are one edge.
    hull("long edge", Shapes.LONG_EDGE).edges(6);
    DueHull cap = hull("cap, shrinking", Shapes.CAP);
    for (int left = 13; left >= 4; left--) {
      cap.removeLast(left);
      cap.edges(3 * left - 6);
    }
  }

  private static void edgesFlat() {
    CHECK.sentence("Promise 10: FLAT");
    flats(DueHull::edges);
  }

  private static void sixVolumeLeast() {
    CHECK.sentence("Promise 15: six times the volume of the hull (a whole number above 0)");
    hull("least", Shapes.LEAST_TETRAHEDRON).sixVolume(1);
    DueHull steep = hull("steep and thin", new int[][] {Shapes.STEEP[0], Shapes.STEEP[1], Shapes.STEEP[2]});
    steep.add(59, -59, -59, 3);
    steep.sixVolume(1);
    // On the other side of the triangle by as much.
    steep.removeLast(3);
    steep.add(60, 59, 58, 3);
    steep.sixVolume(1);
    hull("two above 0", new int[][] {{0, 0, 0}, {1, 0, 0}, {0, 1, 0}, {1, 1, 2}}).sixVolume(2);
    hull("no whole number itself", new int[][] {{0, 0, 0}, {1, 0, 0}, {0, 1, 0}, {1, 1, 0}, {0, 0, 5}}).sixVolume(10);
  }

  private static void sixVolumeGreatest() {
    CHECK.sentence("Promise 15: six times the volume of the hull: the greatest there can be");
    hull("greatest cube", Shapes.GREATEST_CUBE).sixVolume(10368000);
    DueHull hull = hull("greatest cube", Shapes.GREATEST_CUBE);
    hull.add(0, 0, 0, 8);
    hull.add(60, 0, 0, 9);
    hull.add(60, 60, 0, 10);
    hull.add(-60, 1, 2, 11);
    hull.add(3, -60, 4, 12);
    hull.add(59, 59, 59, 13);
    hull.sixVolume(10368000);
    hull("greatest tetrahedron", Shapes.GREATEST_TETRAHEDRON).sixVolume(3456000);
    hull("steep", Shapes.STEEP).sixVolume(1713601);
  }

  private static void sixVolumeOrders() {
    CHECK.sentence("Promise 15: six times the volume of the hull: in whatever order the points come");
    int[][] set = Shapes.TETRAHEDRON;
    for (int order = 0; order < 256; order++) {
      int a = order % 4;
      int b = order / 4 % 4;
      int c = order / 16 % 4;
      int d = order / 64;
      if ((1 << a | 1 << b | 1 << c | 1 << d) == 15) {
        hull("order " + a + b + c + d, new int[][] {set[a], set[b], set[c], set[d]}).sixVolume(64);
      }
    }
    for (int first = 0; first < 11; first++) {
      DueHull hull = new DueHull(CHECK, "full cube from " + first, 11);
      for (int i = 0; i < 11; i++) {
        hull.add(Shapes.FULL_CUBE[(first + 5 * i) % 11], i);
      }
      hull.sixVolume(6000);
    }
    for (int first = 0; first < 14; first++) {
      DueHull hull = new DueHull(CHECK, "wide pyramid from " + first, 14);
      for (int i = 0; i < 14; i++) {
        hull.add(Shapes.WIDE_PYRAMID[(first + 5 * i) % 14], i);
      }
      hull.sixVolume(608 * 3);
    }
  }

  /** Points that are no corners count for nothing, wherever they lie, and removed points are gone. */
  private static void sixVolumeOfTheHull() {
    CHECK.sentence("Promise 15: six times the volume of the hull: of the points that are held");
    DueHull hull = hull("cube", Shapes.CUBE);
    hull.sixVolume(6000);
    int[][] no = {{5, 5, 5}, {5, 5, 10}, {5, 0, 10}, {1, 9, 10}};
    for (int i = 0; i < 4; i++) {
      hull.add(no[i], 8 + i);
      hull.sixVolume(6000);
    }
    hull.add(5, 5, 11, 12);
    hull.sixVolume(6200);
    hull.add(5, 5, -1, 13);
    hull.sixVolume(6400);
    hull.removeLast(13);
    hull.sixVolume(6200);
    hull.removeLast(12);
    hull.sixVolume(6000);
    hull("long edge", Shapes.LONG_EDGE).sixVolume(275);
    hull("bipyramid", Shapes.BIPYRAMID).sixVolume(480);
  }

  private static void sixVolumeFlat() {
    CHECK.sentence("Promise 15: FLAT");
    flats(DueHull::sixVolume);
  }
}

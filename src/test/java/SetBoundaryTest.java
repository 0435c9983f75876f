/** The boundary cases in the sentences of promises 1 to 5: a new object, add, removeLast, size and solid. */
public final class SetBoundaryTest {
  private static final Check CHECK = new Check();

  public static void main(String[] args) {
    roomTooSmall();
    roomTooLarge();
    roomBetween();
    newObjectHoldsNothing();
    addBadPlace();
    addNoRoom();
    addAlready();
    addAnswersNumber();
    removeLastTakesTheGreatest();
    removeLastEmpty();
    removeLastAnswersTheRest();
    size();
    sizeAfterRefusals();
    solidByCount();
    solidComesAndGoes();
    CHECK.end();
  }

  /** Adds as many points as are due to fit, then one more. */
  private static void fill(int room, int want) {
    DueHull hull = new DueHull(CHECK, "room " + room, room);
    for (int i = 0; i < want; i++) {
      hull.add(Shapes.CAP[i], i);
    }
    hull.add(50, 50, 50, SolidHull.NO_ROOM);
    hull.size(want);
  }

  private static void roomTooSmall() {
    CHECK.sentence("Promise 1: less than 4 becomes 4");
    int[] rooms = {3, 2, 1, 0, -1, -2, -4, -5, -14, -15, -250, -65526, Integer.MIN_VALUE, Integer.MIN_VALUE + 9};
    for (int room : rooms) {
      fill(room, 4);
    }
  }

  private static void roomTooLarge() {
    CHECK.sentence("Promise 1: more than 14 becomes 14");
    int[] rooms = {15, 16, 17, 18, 28, 127, 128, 261, 65541, Integer.MAX_VALUE - 1, Integer.MAX_VALUE};
    for (int room : rooms) {
      fill(room, 14);
    }
  }

  private static void roomBetween() {
    CHECK.sentence("Promise 1: room: how many points may be held");
    for (int room = 4; room <= 14; room++) {
      fill(room, room);
    }
  }

  private static void newObjectHoldsNothing() {
    CHECK.sentence("Promise 1: no point is held");
    for (int room = 3; room <= 15; room++) {
      DueHull hull = new DueHull(CHECK, "new with room " + room, room);
      hull.size(0);
      hull.solid(false);
      hull.facets(SolidHull.FLAT);
      hull.corners(SolidHull.FLAT);
      hull.edges(SolidHull.FLAT);
      hull.sixVolume(SolidHull.FLAT);
      hull.side(0, 0, 0, SolidHull.FLAT);
      hull.visible(0, 0, 0, SolidHull.FLAT);
      hull.farthest(0, 0, 0, SolidHull.FLAT);
      hull.corner(0, SolidHull.BAD_POINT);
      hull.touching(0, SolidHull.BAD_POINT);
      hull.edge(0, 0, SolidHull.BAD_POINT);
      hull.shared(0, 0, SolidHull.BAD_POINT);
      hull.removeLast(SolidHull.EMPTY);
      hull.add(0, 0, 0, 0);
    }
  }

  /** Amounts that a byte, a short or the amount of the least int would turn into good ones are among them. */
  private static void addBadPlace() {
    CHECK.sentence("Promise 2: BAD_PLACE if a coordinate is not from -60 to 60");
    int[] bad = {
      61, -61, 62, -62, 120, -120, 127, -128, 196, 200, -200, 255, 256, -256, 316, 65535, 65536, -65536,
      Integer.MAX_VALUE, Integer.MIN_VALUE, Integer.MIN_VALUE + 1,
    };
    for (int c : bad) {
      DueHull hull = new DueHull(CHECK, "one bad coordinate and more", 14);
      for (int good : new int[] {-60, 0, 60}) {
        hull.add(c, good, good, SolidHull.BAD_PLACE);
        hull.add(good, c, good, SolidHull.BAD_PLACE);
        hull.add(good, good, c, SolidHull.BAD_PLACE);
        hull.add(good, c, -c, SolidHull.BAD_PLACE);
      }
      hull.add(c, c, c, SolidHull.BAD_PLACE);
      hull.size(0);
    }
  }

  private static void addNoRoom() {
    CHECK.sentence("Promise 2: NO_ROOM if room points are held");
    for (int room = 4; room <= 14; room++) {
      DueHull hull = new DueHull(CHECK, "room " + room, room);
      for (int i = 0; i < room; i++) {
        hull.add(Shapes.BIPYRAMID[i], i);
      }
      hull.add(-9, -9, -9, SolidHull.NO_ROOM);
      hull.add(9, 9, 9, SolidHull.NO_ROOM);
      hull.removeLast(room - 1);
      hull.add(9, 9, 9, room - 1);
      hull.add(-9, -9, -9, SolidHull.NO_ROOM);
    }
    // Also where the points are in one plane or in one line.
    hullOf("full plane", Shapes.fullPlane()).add(60, 60, 60, SolidHull.NO_ROOM);
    hullOf("full line", Shapes.fullLine()).add(60, 60, 60, SolidHull.NO_ROOM);
  }

  private static DueHull hullOf(String name, int[][] points) {
    return new DueHull(CHECK, name, points);
  }

  private static void addAlready() {
    CHECK.sentence("Promise 2: ALREADY if the point is held");
    for (int held = 1; held <= 13; held++) {
      DueHull hull = new DueHull(CHECK, held + " held", 14);
      for (int i = 0; i < held; i++) {
        hull.add(Shapes.CAP[i], i);
      }
      for (int i = 0; i < held; i++) {
        hull.add(Shapes.CAP[i], SolidHull.ALREADY);
      }
      hull.size(held);
    }
    DueHull cube = hullOf("in a face, in an edge and within", Shapes.FULL_CUBE);
    cube.add(5, 5, 10, SolidHull.ALREADY);
    cube.add(5, 0, 10, SolidHull.ALREADY);
    cube.add(5, 5, 5, SolidHull.ALREADY);
    // A point that was removed or refused is not held.
    cube.removeLast(10);
    cube.add(5, 5, 5, 10);
    cube.add(61, 0, 0, SolidHull.BAD_PLACE);
    cube.add(61, 0, 0, SolidHull.BAD_PLACE);
    cube.removeLast(10);
    cube.add(5, 0, 10, SolidHull.ALREADY);
    cube.add(5, 5, 6, 10);
    cube.add(5, 5, 5, 11);
  }

  private static void addAnswersNumber() {
    CHECK.sentence("Promise 2: otherwise answers its number");
    DueHull hull = new DueHull(CHECK, "bipyramid", 14);
    for (int i = 0; i < 14; i++) {
      hull.add(0, 0, 61, SolidHull.BAD_PLACE);
      hull.add(Shapes.BIPYRAMID[i], i);
    }
    for (int left = 13; left >= 0; left--) {
      hull.removeLast(left);
      hull.add(40, 40, 40, left);
      hull.removeLast(left);
    }
    hull.add(0, 0, 0, 0);
  }

  private static void removeLastTakesTheGreatest() {
    CHECK.sentence("Promise 3: removes the point with the greatest number");
    DueHull hull = hullOf("cube", Shapes.CUBE);
    for (int last = 7; last >= 0; last--) {
      hull.removeLast(last);
      for (int i = 0; i < last; i++) {
        hull.add(Shapes.CUBE[i], SolidHull.ALREADY);
      }
      hull.add(Shapes.CUBE[last], last);
      hull.removeLast(last);
    }
    // The greatest number counts, not what the point is to the hull.
    DueHull inner = hullOf("inner point last", Shapes.FULL_CUBE);
    inner.removeLast(10);
    inner.corner(10, SolidHull.BAD_POINT);
    inner.touching(9, 2);
    inner.sixVolume(6000);
    DueHull outer = hullOf("corner last", Shapes.CUBE);
    outer.removeLast(7);
    outer.sixVolume(5000);
    outer.side(10, 10, 10, SolidHull.OUTSIDE);
    outer.farthest(1, 1, 1, 3);
  }

  private static void removeLastEmpty() {
    CHECK.sentence("Promise 3: EMPTY if no point is held");
    DueHull hull = new DueHull(CHECK, "empty", 4);
    hull.removeLast(SolidHull.EMPTY);
    hull.removeLast(SolidHull.EMPTY);
    hull.size(0);
    hull.hold(Shapes.TETRAHEDRON);
    for (int left = 3; left >= 0; left--) {
      hull.removeLast(left);
    }
    hull.removeLast(SolidHull.EMPTY);
    hull.removeLast(SolidHull.EMPTY);
    hull.size(0);
    hull.hold(Shapes.TETRAHEDRON);
    hull.add(9, 9, 9, SolidHull.NO_ROOM);
    hull.sixVolume(64);
  }

  private static void removeLastAnswersTheRest() {
    CHECK.sentence("Promise 3: otherwise answers the number of points that are left");
    DueHull hull = hullOf("full", Shapes.BIPYRAMID);
    for (int left = 13; left >= 0; left--) {
      hull.removeLast(left);
      hull.size(left);
    }
    hull.add(1, 1, 1, 0);
    hull.removeLast(0);
  }

  private static void size() {
    CHECK.sentence("Promise 4: the number of points held");
    DueHull hull = new DueHull(CHECK, "cap", 14);
    hull.size(0);
    for (int i = 0; i < 14; i++) {
      hull.add(Shapes.CAP[i], i);
      hull.size(i + 1);
    }
    for (int left = 13; left >= 0; left--) {
      hull.removeLast(left);
      hull.size(left);
    }
    // Points that are no corners are held too.
    hullOf("full cube", Shapes.FULL_CUBE).size(11);
    hullOf("full line", Shapes.fullLine()).size(14);
  }

  private static void sizeAfterRefusals() {
    CHECK.sentence("Promise 4: the number of points held, after refused calls");
    DueHull hull = new DueHull(CHECK, "tetrahedron", 4);
    hull.removeLast(SolidHull.EMPTY);
    hull.size(0);
    hull.hold(Shapes.TETRAHEDRON);
    hull.add(0, 61, 0, SolidHull.BAD_PLACE);
    hull.size(4);
    hull.add(7, 7, 7, SolidHull.NO_ROOM);
    hull.size(4);
    hull.removeLast(3);
    hull.add(4, 0, 0, SolidHull.ALREADY);
    hull.size(3);
  }

  private static void solidByCount() {
    CHECK.sentence("Promise 5: whether the set is solid: never with fewer than four points");
    int[][][] sets = {Shapes.TETRAHEDRON, Shapes.GREATEST_TETRAHEDRON, Shapes.STEEP, Shapes.LEAST_TETRAHEDRON};
    for (int[][] set : sets) {
      DueHull hull = new DueHull(CHECK, "tetrahedron", 4);
      hull.solid(false);
      for (int i = 0; i < 4; i++) {
        hull.add(set[i], i);
        hull.solid(i == 3);
      }
    }
    CHECK.sentence("Promise 5: whether the set is solid: not with all points in one plane or line");
    for (int[][] flat : Shapes.flats()) {
      DueHull hull = new DueHull(CHECK, "flat set of " + flat.length, 14);
      for (int i = 0; i < flat.length; i++) {
        hull.add(flat[i], i);
        hull.solid(false);
      }
    }
  }

  private static void solidComesAndGoes() {
    CHECK.sentence("Promise 5: whether the set is solid: it comes and goes with one point");
    for (int[][] flat : Shapes.flats()) {
      if (flat.length >= 3 && flat.length <= 7) {
        DueHull hull = hullOf("flat set of " + flat.length, flat);
        hull.add(17, -29, 31, flat.length);
        hull.add(-5, 11, 43, flat.length + 1);
        hull.solid(true);
        hull.removeLast(flat.length + 1);
        hull.removeLast(flat.length);
        hull.solid(false);
      }
    }
    DueHull cube = hullOf("cube", Shapes.CUBE);
    for (int left = 7; left >= 0; left--) {
      cube.removeLast(left);
      cube.solid(left >= 5);
    }
  }
}

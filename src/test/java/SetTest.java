/** Promises 1 to 5: a new object, add, removeLast, size and solid. */
public final class SetTest {
  private static final Check CHECK = new Check();

  public static void main(String[] args) {
    newObject();
    room();
    addAnswersNumbers();
    addRefusals();
    removeLast();
    solid();
    objectsApart();
    CHECK.end();
  }

  private static void newObject() {
    CountedHull hull = new CountedHull(14);
    CHECK.due("new: size()", hull.size(), 0);
    CHECK.due("new: solid()", hull.solid(), false);
    CHECK.due("new: removeLast()", hull.removeLast(), SolidHull.EMPTY);
    CHECK.due("new: add(0, 0, 0)", hull.add(0, 0, 0), 0);
  }

  private static void room() {
    int[][] roomAndDue = {
      {Integer.MIN_VALUE, 4}, {-5, 4}, {0, 4}, {3, 4}, {4, 4}, {5, 5}, {9, 9}, {13, 13}, {14, 14},
      {15, 14}, {100, 14}, {Integer.MAX_VALUE, 14},
    };
    for (int[] row : roomAndDue) {
      CountedHull hull = new CountedHull(row[0]);
      for (int i = 0; i < row[1]; i++) {
        CHECK.due("room " + row[0] + ": add " + i, hull.add(i, i * i % 7, i * i * i % 11), i);
      }
      CHECK.due("room " + row[0] + ": add to the full", hull.add(60, 60, 60), SolidHull.NO_ROOM);
      CHECK.due("room " + row[0] + ": size()", hull.size(), row[1]);
    }
  }

  private static void addAnswersNumbers() {
    CountedHull hull = new CountedHull(14);
    int[][] edges = {{60, 60, 60}, {-60, -60, -60}, {60, -60, 0}, {0, 60, -60}, {-60, 0, 60}, {0, 0, 0}};
    for (int i = 0; i < edges.length; i++) {
      CHECK.due("add at the edge " + i, hull.add(edges[i][0], edges[i][1], edges[i][2]), i);
      CHECK.due("size() after it", hull.size(), i + 1);
    }
  }

  private static void addRefusals() {
    CountedHull hull = Shapes.hull(Shapes.TETRAHEDRON);
    for (int bad : Shapes.BAD_POINT_COORDINATES) {
      CHECK.due("add(" + bad + ", 0, 0)", hull.add(bad, 0, 0), SolidHull.BAD_PLACE);
      CHECK.due("add(0, " + bad + ", 0)", hull.add(0, bad, 0), SolidHull.BAD_PLACE);
      CHECK.due("add(0, 0, " + bad + ")", hull.add(0, 0, bad), SolidHull.BAD_PLACE);
    }
    for (int[] point : Shapes.TETRAHEDRON) {
      CHECK.due("add of a held one", hull.add(point[0], point[1], point[2]), SolidHull.ALREADY);
    }
    CHECK.due("size() after refusals", hull.size(), 4);
    CHECK.due("sixVolume() after refusals", hull.sixVolume(), 64);
    CHECK.due("add with two coordinates of a held one", hull.add(4, 0, 1), 4);
    CHECK.due("add with two coordinates of a held one", hull.add(4, 1, 0), 5);
    CHECK.due("add with two coordinates of a held one", hull.add(1, 0, 0), 6);
    addRefusalOrder();
  }

  private static void addRefusalOrder() {
    CountedHull hull = new CountedHull(4);
    for (int[] point : Shapes.TETRAHEDRON) {
      hull.add(point[0], point[1], point[2]);
    }
    CHECK.due("full: add(61, 0, 0)", hull.add(61, 0, 0), SolidHull.BAD_PLACE);
    CHECK.due("full: add of a held one", hull.add(4, 0, 0), SolidHull.NO_ROOM);
    CHECK.due("full: add of a new one", hull.add(5, 5, 5), SolidHull.NO_ROOM);
    CHECK.due("full: sixVolume()", hull.sixVolume(), 64);
    CHECK.due("full: side(5, 5, 5)", hull.side(5, 5, 5), SolidHull.OUTSIDE);
  }

  private static void removeLast() {
    CountedHull hull = Shapes.hull(Shapes.CUBE);
    hull.add(5, 5, 20);
    CHECK.due("with the tip: sixVolume()", hull.sixVolume(), 8000);
    CHECK.due("removeLast() of the tip", hull.removeLast(), 8);
    CHECK.due("without the tip: sixVolume()", hull.sixVolume(), 6000);
    CHECK.due("without the tip: facets()", hull.facets(), 6);
    CHECK.due("without the tip: corner(8)", hull.corner(8), SolidHull.BAD_POINT);
    CHECK.due("the tip again", hull.add(5, 5, 20), 8);
    CHECK.due("the tip twice", hull.add(5, 5, 20), SolidHull.ALREADY);
    for (int left = 8; left >= 0; left--) {
      CHECK.due("removeLast()", hull.removeLast(), left);
      CHECK.due("size()", hull.size(), left);
      CHECK.due("solid() with " + left, hull.solid(), left >= 5);
    }
    CHECK.due("removeLast() of none", hull.removeLast(), SolidHull.EMPTY);
    CHECK.due("removeLast() of none again", hull.removeLast(), SolidHull.EMPTY);
    CHECK.due("size() of none", hull.size(), 0);
    CHECK.due("add after all is removed", hull.add(10, 10, 10), 0);
    CountedHull full = new CountedHull(4);
    for (int[] point : Shapes.TETRAHEDRON) {
      full.add(point[0], point[1], point[2]);
    }
    CHECK.due("full: removeLast()", full.removeLast(), 3);
    CHECK.due("there is room again", full.add(0, 0, 7), 3);
    CHECK.due("the new point counts", full.sixVolume(), 112);
  }

  private static void solid() {
    for (int[][] flat : Shapes.flats()) {
      CHECK.due("flat set of " + flat.length + ": solid()", Shapes.hull(flat).solid(), false);
    }
    CHECK.due("tetrahedron: solid()", Shapes.hull(Shapes.TETRAHEDRON).solid(), true);
    CountedHull hull = Shapes.hull(Shapes.flats()[6]);
    hull.add(20, 20, 21);
    CHECK.due("a point just off the plane: solid()", hull.solid(), true);
    hull.removeLast();
    CHECK.due("and removed: solid()", hull.solid(), false);
    CountedHull line = Shapes.hull(Shapes.flats()[3]);
    line.add(1, 0, 0);
    CHECK.due("a line and a point: solid()", line.solid(), false);
    line.add(0, 1, 0);
    CHECK.due("a line and two points: solid()", line.solid(), true);
  }

  private static void objectsApart() {
    CountedHull one = Shapes.hull(Shapes.CUBE);
    CountedHull other = Shapes.hull(Shapes.TETRAHEDRON);
    CHECK.due("one of two: sixVolume()", one.sixVolume(), 6000);
    CHECK.due("other of two: sixVolume()", other.sixVolume(), 64);
    CHECK.due("one of two: size()", one.size(), 8);
  }
}

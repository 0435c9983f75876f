/** 'What it is': an object answers as promised up to its 512th call, whatever the calls before were. */
public final class CallsBoundaryTest {
  private static final Check CHECK = new Check();
  private static final int KINDS = 15;

  public static void main(String[] args) {
    CHECK.sentence("What it is: an object is used for at most 512 calls after it has been made");
    for (int kind = 0; kind < KINDS; kind++) {
      afterQuestions(kind);
      afterChanges(kind);
      afterRefusals(kind);
    }
    addAndRemoveOnly();
    emptiedAndFilled();
    CHECK.end();
  }

  private static DueHull cube(String name, int kind) {
    return new DueHull(CHECK, name + ", kind " + kind, Shapes.CUBE);
  }

  private static void afterQuestions(int kind) {
    DueHull hull = cube("questions before", kind);
    for (int call = 0; hull.calls() < CountedHull.MOST_CALLS - 1; call++) {
      ask(hull, call % (KINDS - 2));
    }
    ask(hull, kind);
  }

  private static void afterChanges(int kind) {
    DueHull hull = cube("changes before", kind);
    while (hull.calls() < CountedHull.MOST_CALLS - 2) {
      ask(hull, 13);
      hull.removeLast(8);
    }
    hull.size(8);
    ask(hull, kind);
  }

  private static void afterRefusals(int kind) {
    DueHull hull = cube("refusals before", kind);
    while (hull.calls() < CountedHull.MOST_CALLS - 3) {
      hull.add(10, 10, 10, SolidHull.ALREADY);
      hull.add(61, 0, 0, SolidHull.BAD_PLACE);
      hull.corner(8, SolidHull.BAD_POINT);
    }
    while (hull.calls() < CountedHull.MOST_CALLS - 1) {
      hull.side(0, 0, 201, SolidHull.BAD_PLACE);
    }
    ask(hull, kind);
  }

  /** One question of each kind to the cube; 13 and 14 are the calls that change it. */
  private static void ask(DueHull hull, int kind) {
    switch (kind) {
      case 0 -> hull.size(8);
      case 1 -> hull.solid(true);
      case 2 -> hull.side(5, 5, 5, SolidHull.INSIDE);
      case 3 -> hull.visible(11, 11, 11, 3);
      case 4 -> hull.facets(6);
      case 5 -> hull.corners(8);
      case 6 -> hull.edges(12);
      case 7 -> hull.corner(7, 1);
      case 8 -> hull.touching(7, 3);
      case 9 -> hull.edge(0, 1, 1);
      case 10 -> hull.shared(0, 1, 2);
      case 11 -> hull.sixVolume(6000);
      case 12 -> hull.farthest(1, 1, 1, 7);
      case 13 -> hull.add(5, 5, 20, 8);
      default -> hull.removeLast(7);
    }
  }

  /** 256 points are added in all, more than ever are held. */
  private static void addAndRemoveOnly() {
    DueHull hull = new DueHull(CHECK, "add and remove", 14);
    while (hull.calls() < CountedHull.MOST_CALLS) {
      hull.add(hull.calls() % 121 - 60, 1, 2, 0);
      hull.removeLast(0);
    }
  }

  private static void emptiedAndFilled() {
    DueHull hull = new DueHull(CHECK, "emptied and filled", 14);
    for (int round = 0; round < 17; round++) {
      hull.hold(Shapes.BIPYRAMID);
      hull.sixVolume(480);
      for (int left = 13; left >= 0; left--) {
        hull.removeLast(left);
      }
      hull.facets(SolidHull.FLAT);
    }
    hull.add(1, 1, 1, 0);
    hull.size(1);
  }
}

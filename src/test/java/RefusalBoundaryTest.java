import java.util.ArrayList;
import java.util.List;

/** 'Terms': the refusals of a call are tested in their order, and a refused call changes nothing. */
public final class RefusalBoundaryTest {
  private static final Check CHECK = new Check();

  public static void main(String[] args) {
    orderOfAdd();
    orderOfPlaces();
    orderOfPoints();
    changesNothing();
    CHECK.end();
  }

  /** BAD_PLACE and ALREADY can't meet: a held point is in reach. */
  private static void orderOfAdd() {
    CHECK.sentence("Terms: refusals are tested in the order in which they are listed: add: BAD_PLACE, NO_ROOM");
    for (int room = 4; room <= 14; room++) {
      DueHull full = full(room);
      full.add(61, 0, 0, SolidHull.BAD_PLACE);
      full.add(0, -61, 0, SolidHull.BAD_PLACE);
      full.add(0, 0, Integer.MIN_VALUE, SolidHull.BAD_PLACE);
      full.add(60, 60, 60, SolidHull.NO_ROOM);
    }
    CHECK.sentence("Terms: refusals are tested in the order in which they are listed: add: NO_ROOM, ALREADY");
    for (int room = 4; room <= 14; room++) {
      DueHull full = full(room);
      for (int i = 0; i < room; i++) {
        full.add(Shapes.CAP[i], SolidHull.NO_ROOM);
      }
      full.removeLast(room - 1);
      full.add(Shapes.CAP[0], SolidHull.ALREADY);
      full.add(Shapes.CAP[room - 2], SolidHull.ALREADY);
    }
  }

  private static DueHull full(int room) {
    DueHull hull = new DueHull(CHECK, "room " + room, room);
    for (int i = 0; i < room; i++) {
      hull.add(Shapes.CAP[i], i);
    }
    return hull;
  }

  private static void orderOfPlaces() {
    CHECK.sentence("Terms: refusals are tested in the order in which they are listed: BAD_PLACE, FLAT");
    for (int[][] flat : Shapes.flats()) {
      DueHull hull = new DueHull(CHECK, "flat set of " + flat.length, flat);
      for (int bad : Shapes.BAD_PLACE_COORDINATES) {
        int[][] places = {{bad, 0, 0}, {0, bad, 0}, {0, 0, bad}};
        for (int[] place : places) {
          hull.side(place, SolidHull.BAD_PLACE);
          hull.visible(place, SolidHull.BAD_PLACE);
          hull.farthest(place, SolidHull.BAD_PLACE);
        }
      }
      hull.side(200, 200, -200, SolidHull.FLAT);
      hull.visible(200, 200, -200, SolidHull.FLAT);
      hull.farthest(200, 200, -200, SolidHull.FLAT);
    }
  }

  private static void orderOfPoints() {
    CHECK.sentence("Terms: refusals are tested in the order in which they are listed: BAD_POINT, FLAT");
    for (int[][] flat : Shapes.flats()) {
      DueHull hull = new DueHull(CHECK, "flat set of " + flat.length, flat);
      int last = flat.length - 1;
      for (int bad : new int[] {-1, flat.length, 14, Integer.MIN_VALUE, Integer.MAX_VALUE}) {
        hull.corner(bad, SolidHull.BAD_POINT);
        hull.touching(bad, SolidHull.BAD_POINT);
        hull.edge(bad, last, SolidHull.BAD_POINT);
        hull.edge(last, bad, SolidHull.BAD_POINT);
        hull.edge(bad, bad, SolidHull.BAD_POINT);
        hull.shared(bad, last, SolidHull.BAD_POINT);
        hull.shared(last, bad, SolidHull.BAD_POINT);
        hull.shared(bad, bad, SolidHull.BAD_POINT);
      }
      if (last >= 0) {
        hull.corner(last, SolidHull.FLAT);
        hull.touching(last, SolidHull.FLAT);
        hull.edge(0, last, SolidHull.FLAT);
        hull.shared(0, last, SolidHull.FLAT);
      }
    }
  }

  private interface Call {
    int on(CountedHull hull);
  }

  private record Refused(String name, Call call, int due) {}

  /** Two objects are treated alike but for the refused call: all their answers are the same. */
  private static void changesNothing() {
    CHECK.sentence("Terms: a refused call changes nothing");
    List<int[][]> sets = new ArrayList<>(List.of(Shapes.flats()));
    sets.add(Shapes.TETRAHEDRON);
    sets.add(Shapes.FULL_CUBE);
    sets.add(Shapes.BIPYRAMID);
    sets.add(Shapes.LONG_EDGE);
    for (int[][] set : sets) {
      compare(14, set);
      compare(Math.max(4, set.length), set);
    }
  }

  private static void compare(int room, int[][] set) {
    List<Integer> untouched = answers(holding(room, set), set);
    List<Refused> all = refusedCalls(room, set);
    for (Refused refused : all) {
      CountedHull hull = holding(room, set);
      refuse(hull, refused);
      same(room, set, refused.name(), answers(hull, set), untouched);
    }
    CountedHull hull = holding(room, set);
    for (Refused refused : all) {
      refuse(hull, refused);
    }
    same(room, set, "all refused calls", answers(hull, set), untouched);
  }

  private static CountedHull holding(int room, int[][] set) {
    CountedHull hull = new CountedHull(room);
    for (int[] point : set) {
      hull.add(point[0], point[1], point[2]);
    }
    return hull;
  }

  private static void refuse(CountedHull hull, Refused refused) {
    CHECK.due(refused.name(), refused.call().on(hull), refused.due());
  }

  private static void same(int room, int[][] set, String refused, List<Integer> got, List<Integer> want) {
    String name = "room " + room + ", " + set.length + " points: after " + refused + ": question ";
    for (int i = 0; i < want.size(); i++) {
      CHECK.due(name + i, got.get(i), want.get(i));
    }
  }

  /** The calls that are refused by an object with this room that holds this set. */
  private static List<Refused> refusedCalls(int room, int[][] set) {
    List<Refused> calls = new ArrayList<>();
    int count = set.length;
    calls.add(new Refused("add(61, 1, 2)", h -> h.add(61, 1, 2), SolidHull.BAD_PLACE));
    calls.add(new Refused("add(1, -61, 2)", h -> h.add(1, -61, 2), SolidHull.BAD_PLACE));
    calls.add(new Refused("add(1, 2, 61)", h -> h.add(1, 2, 61), SolidHull.BAD_PLACE));
    if (count == room) {
      calls.add(new Refused("add(59, 58, 57)", h -> h.add(59, 58, 57), SolidHull.NO_ROOM));
    } else if (count > 0) {
      int[] last = set[count - 1];
      calls.add(new Refused("add of the first", h -> h.add(set[0][0], set[0][1], set[0][2]), SolidHull.ALREADY));
      calls.add(new Refused("add of the last", h -> h.add(last[0], last[1], last[2]), SolidHull.ALREADY));
    } else {
      calls.add(new Refused("removeLast()", h -> h.removeLast(), SolidHull.EMPTY));
    }
    calls.add(new Refused("side(201, 0, 0)", h -> h.side(201, 0, 0), SolidHull.BAD_PLACE));
    calls.add(new Refused("visible(0, 201, 0)", h -> h.visible(0, 201, 0), SolidHull.BAD_PLACE));
    calls.add(new Refused("farthest(0, 0, 201)", h -> h.farthest(0, 0, 201), SolidHull.BAD_PLACE));
    calls.add(new Refused("corner(-1)", h -> h.corner(-1), SolidHull.BAD_POINT));
    calls.add(new Refused("touching(14)", h -> h.touching(14), SolidHull.BAD_POINT));
    calls.add(new Refused("edge(0, 14)", h -> h.edge(0, 14), SolidHull.BAD_POINT));
    calls.add(new Refused("shared(14, 0)", h -> h.shared(14, 0), SolidHull.BAD_POINT));
    if (!holding(room, set).solid()) {
      addFlatCalls(calls, count);
    }
    return calls;
  }

  private static void addFlatCalls(List<Refused> calls, int count) {
    calls.add(new Refused("side(1, 2, 3)", h -> h.side(1, 2, 3), SolidHull.FLAT));
    calls.add(new Refused("visible(1, 2, 3)", h -> h.visible(1, 2, 3), SolidHull.FLAT));
    calls.add(new Refused("farthest(1, 2, 3)", h -> h.farthest(1, 2, 3), SolidHull.FLAT));
    calls.add(new Refused("facets()", h -> h.facets(), SolidHull.FLAT));
    calls.add(new Refused("corners()", h -> h.corners(), SolidHull.FLAT));
    calls.add(new Refused("edges()", h -> h.edges(), SolidHull.FLAT));
    calls.add(new Refused("sixVolume()", h -> h.sixVolume(), SolidHull.FLAT));
    if (count > 0) {
      calls.add(new Refused("corner(0)", h -> h.corner(0), SolidHull.FLAT));
      calls.add(new Refused("touching(0)", h -> h.touching(0), SolidHull.FLAT));
      calls.add(new Refused("edge(0, 0)", h -> h.edge(0, 0), SolidHull.FLAT));
      calls.add(new Refused("shared(0, 0)", h -> h.shared(0, 0), SolidHull.FLAT));
    }
  }

  /** All that can be asked, then some changes with the short questions after each of them. */
  private static List<Integer> answers(CountedHull hull, int[][] set) {
    List<Integer> answers = new ArrayList<>();
    askShort(hull, answers);
    askPairs(hull, answers);
    askPlaces(hull, answers);
    answers.add(hull.add(59, 58, 57));
    askShort(hull, answers);
    for (int[] point : set) {
      answers.add(hull.add(point[0], point[1], point[2]));
    }
    answers.add(hull.removeLast());
    answers.add(hull.removeLast());
    askShort(hull, answers);
    answers.add(hull.add(-31, 41, 59));
    askShort(hull, answers);
    return answers;
  }

  private static void askShort(CountedHull hull, List<Integer> answers) {
    answers.add(hull.size());
    answers.add(hull.solid() ? 1 : 0);
    answers.add(hull.facets());
    answers.add(hull.corners());
    answers.add(hull.edges());
    answers.add(hull.sixVolume());
    for (int p = 0; p < 14; p++) {
      answers.add(hull.touching(p));
    }
  }

  private static void askPairs(CountedHull hull, List<Integer> answers) {
    for (int a = 0; a < 14; a++) {
      answers.add(hull.corner(a));
      for (int b = a + 1; b < 14; b++) {
        answers.add(hull.edge(a, b));
        answers.add(hull.shared(b, a));
      }
    }
  }

  private static void askPlaces(CountedHull hull, List<Integer> answers) {
    for (int i = 0; i < 27; i++) {
      int x = i % 3 * 5;
      int y = i / 3 % 3 * 5;
      int z = i / 9 * 5;
      answers.add(hull.side(x, y, z));
      answers.add(hull.visible(x - 1, y, z + 1));
      answers.add(hull.farthest(x - 5, y - 5, z - 5));
    }
  }
}

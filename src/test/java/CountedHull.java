/**
 * An object under test that is used for at most 512 calls: the document leaves free what later calls
 * answer, so a test that asks for more is itself wrong.
 */
final class CountedHull {
  static final int MOST_CALLS = 512;

  private final SolidHull hull;
  private int calls = 0;

  CountedHull(int room) {
    hull = new SolidHull(room);
  }

  int calls() {
    return calls;
  }

  int add(int x, int y, int z) {
    return next().add(x, y, z);
  }

  int removeLast() {
    return next().removeLast();
  }

  int size() {
    return next().size();
  }

  boolean solid() {
    return next().solid();
  }

  int side(int x, int y, int z) {
    return next().side(x, y, z);
  }

  int visible(int x, int y, int z) {
    return next().visible(x, y, z);
  }

  int facets() {
    return next().facets();
  }

  int corners() {
    return next().corners();
  }

  int edges() {
    return next().edges();
  }

  int corner(int point) {
    return next().corner(point);
  }

  int touching(int point) {
    return next().touching(point);
  }

  int edge(int a, int b) {
    return next().edge(a, b);
  }

  int shared(int a, int b) {
    return next().shared(a, b);
  }

  int sixVolume() {
    return next().sixVolume();
  }

  int farthest(int dx, int dy, int dz) {
    return next().farthest(dx, dy, dz);
  }

  private SolidHull next() {
    if (calls == MOST_CALLS) {
      throw new IllegalStateException("the test asks for a call after the last one that is promised");
    }
    calls++;
    return hull;
  }
}

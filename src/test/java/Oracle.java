import java.util.ArrayList;
import java.util.HashSet;
import java.util.List;
import java.util.Set;

/**
 * Answers the same questions by other ways than the class: planes as reduced equations in a set,
 * the hull as the union of all tetrahedra, the volume by placing one point after the other.
 */
final class Oracle {
  private final List<long[]> points = new ArrayList<>();
  private final int room;

  Oracle(int room) {
    this.room = Math.max(4, Math.min(14, room));
  }

  int add(int x, int y, int z) {
    if (beyond(60, x, y, z)) {
      return -1;
    }
    if (points.size() == room) {
      return -2;
    }
    for (long[] p : points) {
      if (p[0] == x && p[1] == y && p[2] == z) {
        return -3;
      }
    }
    points.add(new long[] {x, y, z});
    return points.size() - 1;
  }

  int removeLast() {
    if (points.isEmpty()) {
      return -4;
    }
    points.remove(points.size() - 1);
    return points.size();
  }

  int size() {
    return points.size();
  }

  boolean solid() {
    return firstTetrahedron(points) != null;
  }

  int side(int x, int y, int z) {
    if (beyond(200, x, y, z)) {
      return -1;
    }
    if (!solid()) {
      return -5;
    }
    long[] place = {x, y, z};
    if (!inUnion(points, place)) {
      return 0;
    }
    for (List<Long> plane : planes()) {
      if (height(plane, place) == 0) {
        return 1;
      }
    }
    return 2;
  }

  int visible(int x, int y, int z) {
    if (beyond(200, x, y, z)) {
      return -1;
    }
    if (!solid()) {
      return -5;
    }
    int count = 0;
    for (List<Long> plane : planes()) {
      count += height(plane, new long[] {x, y, z}) > 0 ? 1 : 0;
    }
    return count;
  }

  int facets() {
    return solid() ? planes().size() : -5;
  }

  int corners() {
    if (!solid()) {
      return -5;
    }
    int count = 0;
    for (int p = 0; p < points.size(); p++) {
      count += corner(p);
    }
    return count;
  }

  /** By Euler's formula. */
  int edges() {
    return solid() ? corners() + facets() - 2 : -5;
  }

  /** A point is a corner if the hull of the others does not contain it. */
  int corner(int point) {
    if (point < 0 || point >= points.size()) {
      return -6;
    }
    if (!solid()) {
      return -5;
    }
    List<long[]> others = new ArrayList<>(points);
    long[] place = others.remove(point);
    return inUnion(others, place) ? 0 : 1;
  }

  int touching(int point) {
    return shared(point, point);
  }

  int edge(int a, int b) {
    int shared = shared(a, b);
    if (shared < 0) {
      return shared;
    }
    return a != b && corner(a) == 1 && corner(b) == 1 && shared >= 2 ? 1 : 0;
  }

  int shared(int a, int b) {
    if (a < 0 || b < 0 || a >= points.size() || b >= points.size()) {
      return -6;
    }
    if (!solid()) {
      return -5;
    }
    int count = 0;
    for (List<Long> plane : planes()) {
      count += height(plane, points.get(a)) == 0 && height(plane, points.get(b)) == 0 ? 1 : 0;
    }
    return count;
  }

  /** Starts with one tetrahedron; each point adds the tetrahedra to the triangles that it sees. */
  long sixVolume() {
    int[] first = firstTetrahedron(points);
    if (first == null) {
      return -5;
    }
    List<int[]> triangles = new ArrayList<>();
    for (int skip = 0; skip < 4; skip++) {
      int[] t = {first[(skip + 1) % 4], first[(skip + 2) % 4], first[(skip + 3) % 4]};
      triangles.add(determinant(t, points.get(first[skip])) > 0 ? new int[] {t[0], t[2], t[1]} : t);
    }
    long volume = Math.abs(determinant(new int[] {first[0], first[1], first[2]}, points.get(first[3])));
    for (int p = 0; p < points.size(); p++) {
      volume += place(triangles, p);
    }
    return volume;
  }

  private long place(List<int[]> triangles, int p) {
    long volume = 0;
    List<int[]> kept = new ArrayList<>();
    Set<List<Integer>> rim = new HashSet<>();
    for (int[] t : triangles) {
      long seen = determinant(t, points.get(p));
      if (seen <= 0) {
        kept.add(t);
        continue;
      }
      volume += seen;
      for (int i = 0; i < 3; i++) {
        // A side between two seen triangles comes once in each direction.
        if (!rim.remove(List.of(t[(i + 1) % 3], t[i]))) {
          rim.add(List.of(t[i], t[(i + 1) % 3]));
        }
      }
    }
    for (List<Integer> side : rim) {
      kept.add(new int[] {side.get(0), side.get(1), p});
    }
    triangles.clear();
    triangles.addAll(kept);
    return volume;
  }

  int farthest(int dx, int dy, int dz) {
    if (beyond(200, dx, dy, dz)) {
      return -1;
    }
    if (!solid()) {
      return -5;
    }
    long most = Long.MIN_VALUE;
    for (long[] p : points) {
      most = Math.max(most, p[0] * dx + p[1] * dy + p[2] * dz);
    }
    for (int i = 0; i < points.size(); i++) {
      long[] p = points.get(i);
      if (p[0] * dx + p[1] * dy + p[2] * dz == most && corner(i) == 1) {
        return i;
      }
    }
    throw new IllegalStateException("the greatest value is at no corner");
  }

  private static boolean beyond(int reach, int... coordinates) {
    for (int c : coordinates) {
      if (c < -reach || c > reach) {
        return true;
      }
    }
    return false;
  }

  /** The facet planes, each as its outer normal and its level, reduced by their common divisor. */
  private Set<List<Long>> planes() {
    Set<List<Long>> planes = new HashSet<>();
    int n = points.size();
    for (int a = 0; a < n; a++) {
      for (int b = 0; b < n; b++) {
        for (int c = 0; c < n; c++) {
          List<Long> plane = plane(points.get(a), points.get(b), points.get(c));
          if (plane != null && points.stream().allMatch(p -> height(plane, p) <= 0)) {
            planes.add(plane);
          }
        }
      }
    }
    return planes;
  }

  private static List<Long> plane(long[] a, long[] b, long[] c) {
    long[] n = cross(minus(b, a), minus(c, a));
    long level = dot(n, a);
    long divisor = divisor(divisor(n[0], n[1]), divisor(n[2], level));
    if (n[0] == 0 && n[1] == 0 && n[2] == 0) {
      return null;
    }
    return List.of(n[0] / divisor, n[1] / divisor, n[2] / divisor, level / divisor);
  }

  private static long divisor(long a, long b) {
    return b == 0 ? Math.abs(a) : divisor(b, a % b);
  }

  private static long height(List<Long> plane, long[] p) {
    return plane.get(0) * p[0] + plane.get(1) * p[1] + plane.get(2) * p[2] - plane.get(3);
  }

  private static int[] firstTetrahedron(List<long[]> set) {
    int n = set.size();
    for (int a = 0; a < n; a++) {
      for (int b = a + 1; b < n; b++) {
        for (int c = b + 1; c < n; c++) {
          for (int d = c + 1; d < n; d++) {
            if (determinant(set.get(a), set.get(b), set.get(c), set.get(d)) != 0) {
              return new int[] {a, b, c, d};
            }
          }
        }
      }
    }
    return null;
  }

  /** Whether a tetrahedron of the set contains the place; the hull of a solid set is their union. */
  private static boolean inUnion(List<long[]> set, long[] p) {
    int n = set.size();
    for (int i = 0; i < n; i++) {
      for (int j = i + 1; j < n; j++) {
        for (int k = j + 1; k < n; k++) {
          for (int l = k + 1; l < n; l++) {
            if (inTetrahedron(set.get(i), set.get(j), set.get(k), set.get(l), p)) {
              return true;
            }
          }
        }
      }
    }
    return false;
  }

  private static boolean inTetrahedron(long[] a, long[] b, long[] c, long[] d, long[] p) {
    long sign = Long.signum(determinant(a, b, c, d));
    return sign != 0
        && sign * determinant(p, b, c, d) >= 0
        && sign * determinant(a, p, c, d) >= 0
        && sign * determinant(a, b, p, d) >= 0
        && sign * determinant(a, b, c, p) >= 0;
  }

  private long determinant(int[] t, long[] p) {
    return determinant(points.get(t[0]), points.get(t[1]), points.get(t[2]), p);
  }

  private static long determinant(long[] a, long[] b, long[] c, long[] d) {
    return dot(cross(minus(b, a), minus(c, a)), minus(d, a));
  }

  private static long[] minus(long[] a, long[] b) {
    return new long[] {a[0] - b[0], a[1] - b[1], a[2] - b[2]};
  }

  private static long[] cross(long[] u, long[] v) {
    return new long[] {u[1] * v[2] - u[2] * v[1], u[2] * v[0] - u[0] * v[2], u[0] * v[1] - u[1] * v[0]};
  }

  private static long dot(long[] u, long[] v) {
    return u[0] * v[0] + u[1] * v[1] + u[2] * v[2];
  }
}

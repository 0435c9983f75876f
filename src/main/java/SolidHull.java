/**
 * The convex hull of a growing set of points in space, with exact whole-number arithmetic.
 *
 * <p>The facet planes are found anew, from all triples of points, whenever the set changes; every
 * question is then answered from the list of facet planes.
 */
public final class SolidHull {
  public static final int OUTSIDE = 0;
  public static final int SURFACE = 1;
  public static final int INSIDE = 2;
  public static final int BAD_PLACE = -1;
  public static final int NO_ROOM = -2;
  public static final int ALREADY = -3;
  public static final int EMPTY = -4;
  public static final int FLAT = -5;
  public static final int BAD_POINT = -6;

  private static final int LEAST_ROOM = 4;
  private static final int MOST_ROOM = 14;
  // By Euler's formula a hull with n corners has at most 2n - 4 facets.
  private static final int MOST_FACETS = 24;
  private static final int POINT_REACH = 60;
  private static final int PLACE_REACH = 200;

  private final int[] pointX = new int[MOST_ROOM];
  private final int[] pointY = new int[MOST_ROOM];
  private final int[] pointZ = new int[MOST_ROOM];

  // A place p is on the outer side of facet plane f if normal * p is greater than level.
  private final int[] normalX = new int[MOST_FACETS];
  private final int[] normalY = new int[MOST_FACETS];
  private final int[] normalZ = new int[MOST_FACETS];
  private final int[] level = new int[MOST_FACETS];
  // Bit i is set if point i lies in the facet plane.
  private final int[] members = new int[MOST_FACETS];

  private final int room;
  private int pointCount;
  // 0 as long as the set is not solid; a solid set has at least four facet planes.
  private int facetCount;

  public SolidHull(int room) {
    if (room < LEAST_ROOM) {
      this.room = LEAST_ROOM;
    } else if (room > MOST_ROOM) {
      this.room = MOST_ROOM;
    } else {
      this.room = room;
    }
    pointCount = 0;
    facetCount = 0;
  }

  public int add(int x, int y, int z) {
    if (!isWithin(x, y, z, POINT_REACH)) {
      return BAD_PLACE;
    }
    if (pointCount >= room) {
      return NO_ROOM;
    }
    if (holds(x, y, z)) {
      return ALREADY;
    }
    int number = pointCount;
    pointX[number] = x;
    pointY[number] = y;
    pointZ[number] = z;
    pointCount = number + 1;
    findFacets();
    return number;
  }

  public int removeLast() {
    if (pointCount == 0) {
      return EMPTY;
    }
    pointCount--;
    findFacets();
    return pointCount;
  }

  public int size() {
    return pointCount;
  }

  public boolean solid() {
    return facetCount > 0;
  }

  public int side(int x, int y, int z) {
    if (!isWithin(x, y, z, PLACE_REACH)) {
      return BAD_PLACE;
    }
    if (!solid()) {
      return FLAT;
    }
    boolean touches = false;
    for (int f = 0; f < facetCount; f++) {
      int height = heightAbove(f, x, y, z);
      if (height > 0) {
        return OUTSIDE;
      }
      if (height == 0) {
        touches = true;
      }
    }
    return touches ? SURFACE : INSIDE;
  }

  public int visible(int x, int y, int z) {
    if (!isWithin(x, y, z, PLACE_REACH)) {
      return BAD_PLACE;
    }
    if (!solid()) {
      return FLAT;
    }
    int count = 0;
    for (int f = 0; f < facetCount; f++) {
      if (heightAbove(f, x, y, z) > 0) {
        count++;
      }
    }
    return count;
  }

  public int facets() {
    return solid() ? facetCount : FLAT;
  }

  public int corners() {
    if (!solid()) {
      return FLAT;
    }
    int count = 0;
    for (int p = 0; p < pointCount; p++) {
      if (isCorner(p)) {
        count++;
      }
    }
    return count;
  }

  public int edges() {
    if (!solid()) {
      return FLAT;
    }
    int count = 0;
    for (int a = 0; a < pointCount; a++) {
      for (int b = a + 1; b < pointCount; b++) {
        if (isEdge(a, b)) {
          count++;
        }
      }
    }
    return count;
  }

  public int corner(int point) {
    if (!isPoint(point)) {
      return BAD_POINT;
    }
    if (!solid()) {
      return FLAT;
    }
    return isCorner(point) ? 1 : 0;
  }

  public int touching(int point) {
    if (!isPoint(point)) {
      return BAD_POINT;
    }
    if (!solid()) {
      return FLAT;
    }
    return countFacetsWith(point, point);
  }

  public int edge(int a, int b) {
    if (!isPoint(a) || !isPoint(b)) {
      return BAD_POINT;
    }
    if (!solid()) {
      return FLAT;
    }
    return isEdge(a, b) ? 1 : 0;
  }

  public int shared(int a, int b) {
    if (!isPoint(a) || !isPoint(b)) {
      return BAD_POINT;
    }
    if (!solid()) {
      return FLAT;
    }
    return countFacetsWith(a, b);
  }

  public int sixVolume() {
    if (!solid()) {
      return FLAT;
    }
    int sum = 0;
    for (int f = 0; f < facetCount; f++) {
      sum += sixVolumeUnder(f);
    }
    return sum;
  }

  public int farthest(int dx, int dy, int dz) {
    if (!isWithin(dx, dy, dz, PLACE_REACH)) {
      return BAD_PLACE;
    }
    if (!solid()) {
      return FLAT;
    }
    int best = -1;
    int bestValue = 0;
    for (int p = 0; p < pointCount; p++) {
      if (isCorner(p)) {
        int value = pointX[p] * dx + pointY[p] * dy + pointZ[p] * dz;
        if (best < 0 || value > bestValue) {
          best = p;
          bestValue = value;
        }
      }
    }
    return best;
  }

  private static boolean isWithin(int x, int y, int z, int reach) {
    return x >= -reach && x <= reach
        && y >= -reach && y <= reach
        && z >= -reach && z <= reach;
  }

  private boolean isPoint(int number) {
    return number >= 0 && number < pointCount;
  }

  private boolean holds(int x, int y, int z) {
    for (int p = 0; p < pointCount; p++) {
      if (pointX[p] == x && pointY[p] == y && pointZ[p] == z) {
        return true;
      }
    }
    return false;
  }

  private void findFacets() {
    facetCount = 0;
    for (int a = 0; a < pointCount; a++) {
      for (int b = a + 1; b < pointCount; b++) {
        for (int c = b + 1; c < pointCount; c++) {
          tryPlane(a, b, c);
        }
      }
    }
  }

  private void tryPlane(int a, int b, int c) {
    int ux = pointX[b] - pointX[a];
    int uy = pointY[b] - pointY[a];
    int uz = pointZ[b] - pointZ[a];
    int vx = pointX[c] - pointX[a];
    int vy = pointY[c] - pointY[a];
    int vz = pointZ[c] - pointZ[a];
    int nx = uy * vz - uz * vy;
    int ny = uz * vx - ux * vz;
    int nz = ux * vy - uy * vx;
    int planeLevel = nx * pointX[a] + ny * pointY[a] + nz * pointZ[a];
    boolean someAbove = false;
    boolean someBelow = false;
    int inPlane = 0;
    for (int p = 0; p < pointCount; p++) {
      int height = nx * pointX[p] + ny * pointY[p] + nz * pointZ[p] - planeLevel;
      if (height > 0) {
        someAbove = true;
      } else if (height < 0) {
        someBelow = true;
      } else {
        inPlane |= 1 << p;
      }
    }
    // Points on neither side mean that the set is flat or that a, b and c are in one line, which
    // makes the normal zero: no facet plane in either case.
    if (someBelow && !someAbove) {
      keepFacet(nx, ny, nz, planeLevel, inPlane);
    } else if (someAbove && !someBelow) {
      keepFacet(-nx, -ny, -nz, -planeLevel, inPlane);
    }
  }

  private void keepFacet(int nx, int ny, int nz, int planeLevel, int inPlane) {
    if (isKnownFacet(inPlane) || facetCount >= MOST_FACETS) {
      return;
    }
    normalX[facetCount] = nx;
    normalY[facetCount] = ny;
    normalZ[facetCount] = nz;
    level[facetCount] = planeLevel;
    members[facetCount] = inPlane;
    facetCount++;
  }

  // A facet plane has three points that are not in one line, so its points tell it from all others.
  private boolean isKnownFacet(int inPlane) {
    for (int f = 0; f < facetCount; f++) {
      if (members[f] == inPlane) {
        return true;
      }
    }
    return false;
  }

  private int heightAbove(int f, int x, int y, int z) {
    return normalX[f] * x + normalY[f] * y + normalZ[f] * z - level[f];
  }

  private boolean isInFacet(int f, int point) {
    return (members[f] >> point & 1) == 1;
  }

  private int countFacetsWith(int a, int b) {
    int count = 0;
    for (int f = 0; f < facetCount; f++) {
      if (isInFacet(f, a) && isInFacet(f, b)) {
        count++;
      }
    }
    return count;
  }

  private boolean isCorner(int point) {
    return countFacetsWith(point, point) >= 3;
  }

  private boolean isEdge(int a, int b) {
    return a != b && isCorner(a) && isCorner(b) && countFacetsWith(a, b) >= 2;
  }

  // The part of the hull between point 0 and facet f: these parts fill the hull without overlap.
  // Each is cut into tetrahedra, one over each edge of the facet, that meet in one of its points,
  // so that the order of the edges around the facet is not needed.
  private int sixVolumeUnder(int f) {
    int hub = leastPointIn(f);
    int sum = 0;
    for (int a = 0; a < pointCount; a++) {
      for (int b = a + 1; b < pointCount; b++) {
        if (isInFacet(f, a) && isInFacet(f, b) && isEdge(a, b)) {
          sum += sixTetrahedron(hub, a, b);
        }
      }
    }
    return sum;
  }

  private int leastPointIn(int f) {
    for (int p = 0; p < pointCount; p++) {
      if (isInFacet(f, p)) {
        return p;
      }
    }
    return 0;
  }

  // Six times the volume of the tetrahedron of point 0 and the three given points.
  private int sixTetrahedron(int a, int b, int c) {
    int ax = pointX[a] - pointX[0];
    int ay = pointY[a] - pointY[0];
    int az = pointZ[a] - pointZ[0];
    int bx = pointX[b] - pointX[0];
    int by = pointY[b] - pointY[0];
    int bz = pointZ[b] - pointZ[0];
    int cx = pointX[c] - pointX[0];
    int cy = pointY[c] - pointY[0];
    int cz = pointZ[c] - pointZ[0];
    int determinant = ax * (by * cz - bz * cy) + ay * (bz * cx - bx * cz) + az * (bx * cy - by * cx);
    return determinant < 0 ? -determinant : determinant;
  }
}

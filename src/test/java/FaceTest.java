import java.lang.reflect.Constructor;
import java.lang.reflect.Field;
import java.lang.reflect.Method;
import java.lang.reflect.Modifier;
import java.util.Arrays;
import java.util.TreeSet;

/** The public face: every member of the document, and no other that is not private. */
public final class FaceTest {
  private static final String[] FACE = {
    "int OUTSIDE", "int SURFACE", "int INSIDE", "int BAD_PLACE", "int NO_ROOM", "int ALREADY",
    "int EMPTY", "int FLAT", "int BAD_POINT",
    "SolidHull[int]",
    "int add[int, int, int]", "int removeLast[]", "int size[]", "boolean solid[]",
    "int side[int, int, int]", "int visible[int, int, int]", "int facets[]", "int corners[]",
    "int edges[]", "int corner[int]", "int touching[int]", "int edge[int, int]",
    "int shared[int, int]", "int sixVolume[]", "int farthest[int, int, int]",
  };

  public static void main(String[] args) {
    Check check = new Check();
    TreeSet<String> found = new TreeSet<>();
    for (Field field : SolidHull.class.getDeclaredFields()) {
      int modifiers = field.getModifiers();
      if (!Modifier.isPrivate(modifiers)) {
        found.add(field.getType() + " " + field.getName());
        check.due(field + " is public, static and final", isConstant(modifiers), true);
      }
    }
    for (Constructor<?> constructor : SolidHull.class.getDeclaredConstructors()) {
      found.add("SolidHull" + Arrays.toString(constructor.getParameterTypes()));
      check.due(constructor + " is public", Modifier.isPublic(constructor.getModifiers()), true);
    }
    for (Method method : SolidHull.class.getDeclaredMethods()) {
      int modifiers = method.getModifiers();
      if (!Modifier.isPrivate(modifiers)) {
        String parameters = Arrays.toString(method.getParameterTypes());
        found.add(method.getReturnType() + " " + method.getName() + parameters);
        check.due(method + " is public", Modifier.isPublic(modifiers), true);
        check.due(method + " is static", Modifier.isStatic(modifiers), false);
      }
    }
    TreeSet<String> face = new TreeSet<>(Arrays.asList(FACE));
    check.due("the members " + found + " are " + face, found.equals(face), true);
    int modifiers = SolidHull.class.getModifiers();
    check.due("public final", Modifier.isPublic(modifiers) && Modifier.isFinal(modifiers), true);
    check.due("nested classes", SolidHull.class.getDeclaredClasses().length, 0);
    constants(check);
    check.end();
  }

  private static boolean isConstant(int modifiers) {
    return Modifier.isPublic(modifiers) && Modifier.isStatic(modifiers) && Modifier.isFinal(modifiers);
  }

  private static void constants(Check check) {
    check.due("OUTSIDE", SolidHull.OUTSIDE, 0);
    check.due("SURFACE", SolidHull.SURFACE, 1);
    check.due("INSIDE", SolidHull.INSIDE, 2);
    check.due("BAD_PLACE", SolidHull.BAD_PLACE, -1);
    check.due("NO_ROOM", SolidHull.NO_ROOM, -2);
    check.due("ALREADY", SolidHull.ALREADY, -3);
    check.due("EMPTY", SolidHull.EMPTY, -4);
    check.due("FLAT", SolidHull.FLAT, -5);
    check.due("BAD_POINT", SolidHull.BAD_POINT, -6);
  }
}

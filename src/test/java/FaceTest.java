import java.lang.reflect.Constructor;
import java.lang.reflect.Field;
import java.lang.reflect.Member;
import java.lang.reflect.Method;
import java.lang.reflect.Modifier;
import java.util.Arrays;
import java.util.List;
import java.util.Set;
import java.util.TreeSet;
import java.util.stream.Collectors;

/** "The public face": every signature with what it may throw, and nothing beside them. */
public final class FaceTest {
  private static final String[] METHODS = {
      "int insert(int, int, int, int, int) throws IllegalArgumentException, IllegalStateException",
      "int remove(int) throws NoSuchElementException",
      "boolean isLive(int)",
      "int coordinate(int, int) throws NoSuchElementException, IllegalArgumentException",
      "int weight(int) throws NoSuchElementException",
      "int tag(int) throws NoSuchElementException",
      "int label(int, int, int) throws NoSuchElementException, IllegalArgumentException",
      "int shift(int, int, int) throws IllegalArgumentException, ArithmeticException",
      "int root() throws NoSuchElementException",
      "int child(int, int) throws NoSuchElementException, IllegalArgumentException",
      "int parent(int) throws NoSuchElementException",
      "int depth(int) throws NoSuchElementException",
      "int height()",
      "int subtree(int, int) throws NoSuchElementException, IllegalArgumentException",
      "int count(int) throws IllegalArgumentException",
      "int bound(int, int, int) throws NoSuchElementException, IllegalArgumentException",
      "int setOption(int, int) throws IndexOutOfBoundsException, IllegalArgumentException",
      "int rebuild()",
      "int rebuilds(int) throws IllegalArgumentException",
      "void query(int, int, int) throws IllegalArgumentException",
      "boolean exclude(int, boolean) throws IllegalArgumentException",
      "int distance(int) throws NoSuchElementException",
      "int boxDistance(int) throws NoSuchElementException",
      "int nearest(int) throws NoSuchElementException",
      "int farthest() throws NoSuchElementException",
      "int within(int)",
      "double influence(int)",
      "int closestPair(int) throws IllegalArgumentException, NoSuchElementException",
      "int followers(int) throws NoSuchElementException",
      "int clusters(int)",
      "int clusterOf(int, int) throws NoSuchElementException",
      "void corner(int, int, int, int) throws IndexOutOfBoundsException, IllegalArgumentException",
      "int inBox()",
      "int boxPoint(int) throws NoSuchElementException",
      "int boxWeight()",
      "double center(int) throws IllegalArgumentException, ArithmeticException",
      "int visits()",
      "int open(int) throws IllegalArgumentException",
      "boolean hasNext() throws IllegalStateException",
      "int next() throws IllegalStateException, NoSuchElementException",
      "void append(char) throws IllegalStateException",
      "int read() throws IllegalArgumentException, IllegalStateException",
      "int faultPosition()",
      "void save()",
      "void restore() throws IllegalStateException"};

  public static void main(String[] args) {
    theClass();
    theConstructor();
    theMethods();
    nothingElse();
    Check.end();
  }

  private static void theClass() {
    Class<?> type = SpatialPoints.class;
    Check.due("the class", () -> Modifier.toString(type.getModifiers()) + " " + type.getName(),
        "public final SpatialPoints");
    Check.due("its superclass", type::getSuperclass, Object.class);
    Check.due("its interfaces", () -> type.getInterfaces().length, 0);
  }

  private static void theConstructor() {
    Constructor<?>[] all = SpatialPoints.class.getDeclaredConstructors();
    Check.due("the constructors", () -> all.length, 1);
    Check.due("the constructor", () -> Modifier.toString(all[0].getModifiers()) + names(all[0].getParameterTypes())
        + names(all[0].getExceptionTypes()), "public");
  }

  private static void theMethods() {
    Set<String> wanted = new TreeSet<>();
    for (String method : METHODS) {
      wanted.add("public " + method);
    }
    Set<String> got = new TreeSet<>();
    for (Method method : SpatialPoints.class.getDeclaredMethods()) {
      if (!Modifier.isPrivate(method.getModifiers())) {
        got.add(told(method));
      }
    }
    Check.due("the number of methods in the document", wanted::size, 45);
    for (String method : wanted) {
      Check.due(method, () -> got.contains(method), true);
    }
    got.removeAll(wanted);
    Check.due("methods beside the document's", got::toString, "[]");
  }

  private static String told(Method method) {
    String exceptions = names(method.getExceptionTypes());
    return Modifier.toString(method.getModifiers()) + " " + method.getReturnType().getSimpleName() + " "
        + method.getName() + "(" + names(method.getParameterTypes()) + ")"
        + (exceptions.isEmpty() ? "" : " throws " + exceptions);
  }

  private static String names(Class<?>[] types) {
    return Arrays.stream(types).map(Class::getSimpleName).collect(Collectors.joining(", "));
  }

  /** Rule 1 of ../shared/LANGUAGE.md. */
  private static void nothingElse() {
    for (Field field : SpatialPoints.class.getDeclaredFields()) {
      Check.due("private: " + field, () -> Modifier.isPrivate(field.getModifiers()), true);
    }
    List<String> names = Arrays.stream(METHODS).map(m -> m.substring(m.indexOf(' ') + 1, m.indexOf('('))).toList();
    forbidNames(SpatialPoints.class, names);
    for (Class<?> inside : SpatialPoints.class.getDeclaredClasses()) {
      int modifiers = inside.getModifiers();
      Check.due("static, neither public nor protected: " + inside,
          () -> Modifier.isStatic(modifiers) && !Modifier.isPublic(modifiers) && !Modifier.isProtected(modifiers),
          true);
      forbidNames(inside, names);
    }
  }

  /** No private method bears the name of a public one. */
  private static void forbidNames(Class<?> type, List<String> names) {
    for (Member method : type.getDeclaredMethods()) {
      if (!Modifier.isPublic(method.getModifiers())) {
        Check.due("its name is free: " + method, () -> names.contains(method.getName()), false);
      }
    }
  }
}

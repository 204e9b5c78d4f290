import java.lang.reflect.InvocationTargetException;
import java.lang.reflect.Method;
import java.util.HashMap;
import java.util.Map;

/** One call of the face, as it is written: "insert(1, 2, 3, 4, 5)". */
final class Step {
  private static final Map<String, Method> FACE = face();
  private static final Map<String, Step> TOLD = new HashMap<>();

  private final Method method;
  private final Object[] arguments;

  private Step(Method method, Object[] arguments) {
    this.method = method;
    this.arguments = arguments;
  }

  private static Map<String, Method> face() {
    Map<String, Method> face = new HashMap<>();
    for (Method method : SpatialPoints.class.getMethods()) {
      if (method.getDeclaringClass() == SpatialPoints.class) {
        face.put(method.getName(), method);
      }
    }
    return face;
  }

  static Step of(String told) {
    return TOLD.computeIfAbsent(told, Step::parsed);
  }

  /** A character cannot be told like a number, since it may be a comma. */
  static Step append(char c) {
    return new Step(FACE.get("append"), new Object[] {c});
  }

  private static Step parsed(String told) {
    int bracket = told.indexOf('(');
    Method method = FACE.get(told.substring(0, bracket));
    String inside = told.substring(bracket + 1, told.length() - 1);
    String[] words = inside.isEmpty() ? new String[0] : inside.split(", *");
    if (method == null || method.getParameterCount() != words.length) {
      throw new AssertionError("there is no such call: " + told);
    }
    Class<?>[] types = method.getParameterTypes();
    Object[] arguments = new Object[words.length];
    for (int i = 0; i < words.length; i++) {
      arguments[i] = types[i] == boolean.class ? (Object) Boolean.valueOf(words[i])
          : (Object) Integer.valueOf(words[i]);
    }
    return new Step(method, arguments);
  }

  /** What the call answers, "done" if it answers nothing; what it throws is thrown. */
  Object on(SpatialPoints object) {
    try {
      Object answer = method.invoke(object, arguments);
      return answer == null ? "done" : answer;
    } catch (InvocationTargetException e) {
      if (e.getCause() instanceof Error) {
        throw (Error) e.getCause();
      }
      throw (RuntimeException) e.getCause();
    } catch (IllegalAccessException e) {
      throw new AssertionError(e);
    }
  }
}

import java.lang.reflect.InvocationTargetException;
import java.lang.reflect.Method;
import java.util.Arrays;
import java.util.Comparator;

/** Long runs of calls, on the class and on the model: promises 1 to 46 together. */
public final class ModelTest {
  private static final int RUNS = 120;
  private static final int FULL_RUNS = 10;
  private static final int CALLS = Run.MOST_CALLS;
  private static final Method[] FACE = face();
  private static final String[] TEXTS = {"1,2,3", "-4,5,-6:7#8", "9,9,9;9,9,9", "0,0,0:0;-0,1,2#3",
      "101,0,0", "1,2", "01,2,3", "1,2,3:", "7,7,7:99", ";", "1,2,3#4;", "5,-5,5;6,-6,6;7,-7,7:1#1"};

  private static long seed;

  public static void main(String[] args) {
    for (int run = 0; run < RUNS; run++) {
      seed = 1000003L * run + 17;
      compare(run);
    }
    for (int run = 0; run < FULL_RUNS; run++) {
      seed = 1000003L * run + 18;
      compareFull(run);
    }
    Check.end();
  }

  private static Method[] face() {
    Method[] all = Arrays.stream(SpatialPoints.class.getDeclaredMethods())
        .filter(m -> (m.getModifiers() & 1) != 0).toArray(Method[]::new);
    Arrays.sort(all, Comparator.comparing(Method::getName));
    return all;
  }

  private static int below(int bound) {
    seed = seed * 6364136223846793005L + 1442695040888963407L;
    return (int) ((seed >>> 33) % bound);
  }

  private static void compare(int run) {
    // A narrow range makes ties, a wide one makes shifts fail.
    int range = new int[] {1, 3, 10, 50, 101}[run % 5];
    // Some runs grow, some shrink, some are even.
    int growth = 30 + 15 * (run / 5 % 3);
    compareCalls("run " + run, new SpatialPoints(), new Model(), 0, range, growth);
  }

  /** From an object on whose tree holds all 200 points, most of them removed. */
  private static void compareFull(int run) {
    SpatialPoints p = new SpatialPoints();
    Model m = new Model();
    int calls = 0;
    calls += compareCall("full", p, m, "setOption", 0, 95);
    calls += compareCall("full", p, m, "setOption", 1, 90);
    for (int i = 0; i < 200; i++) {
      if (i >= 60) {
        calls += compareCall("full", p, m, "remove", i - 60);
      }
      calls += compareCall("full", p, m, "insert", Run.scattered(i, 0), Run.scattered(i, 1),
          Run.scattered(i, 2), below(100), below(5));
    }
    compareCalls("full run " + run, p, m, calls, 101, 0);
  }

  private static int compareCall(String told, SpatialPoints p, Model m, String name, Object... arguments) {
    Object want = Check.answer(() -> call(m, name, arguments));
    Check.due(told + ": " + name + Arrays.toString(arguments), () -> call(p, name, arguments), want);
    return 1;
  }

  private static void compareCalls(String told, SpatialPoints p, Model m, int made, int range, int growth) {
    int calls = made;
    while (calls < CALLS) {
      String name = chosen(growth);
      Object[] arguments = arguments(name, range, m);
      boolean textToo = name.equals("read") && arguments.length == 1;
      calls += textToo ? 1 + ((String) arguments[0]).length() : 1;
      if (calls <= CALLS) {
        compareCall(told + ", call " + calls, p, m, name, arguments);
      }
    }
  }

  private static String chosen(int growth) {
    int dice = below(100);
    if (dice < growth) {
      return "insert";
    }
    if (dice < growth + 15) {
      return below(4) == 0 ? "setOption" : "remove";
    }
    return FACE[below(FACE.length)].getName();
  }

  private static int number(String name, int range, Model m) {
    int dice = below(40);
    if (dice == 0) {
      return new int[] {-2147483648, 2147483647, -1, 101, -101, 200, 201}[below(7)];
    }
    switch (name) {
      case "insert":
      case "query":
      case "corner":
        return below(2 * range) - range;
      case "shift":
        return below(5) - 2;
      case "within":
      case "influence":
      case "clusters":
        return below(4 * range) - 1;
      case "nearest":
      case "boxPoint":
        return below(m.count(0) + 1);
      default:
        return below(4);
    }
  }

  private static Object[] arguments(String name, int range, Model m) {
    if (name.equals("read") && below(4) > 0) {
      return new Object[] {TEXTS[below(TEXTS.length)]};
    }
    Class<?>[] types = method(SpatialPoints.class, name).getParameterTypes();
    Object[] arguments = new Object[types.length];
    for (int i = 0; i < types.length; i++) {
      if (types[i] == boolean.class) {
        arguments[i] = below(3) == 0;
      } else if (types[i] == char.class) {
        arguments[i] = "0123456789,,,,;;:#-- \u00ff".charAt(below(22));
      } else {
        arguments[i] = number(name, range, m);
      }
    }
    refine(name, arguments, range, m);
    return arguments;
  }

  /** Brings most arguments into their ranges, so that most calls answer. */
  private static void refine(String name, Object[] arguments, int range, Model m) {
    if (below(30) == 0) {
      return;
    }
    boolean byNumber = ("remove isLive coordinate weight tag label child parent depth subtree bound "
        + "distance boxDistance followers clusterOf ").contains(name + " ");
    if (byNumber) {
      arguments[0] = below(m.count(2) + 1);
    }
    switch (name) {
      case "insert":
        arguments[3] = below(100);
        arguments[4] = below(5);
        break;
      case "clusterOf":
        arguments[1] = below(3 * range);
        break;
      case "corner":
        arguments[0] = below(2);
        break;
      case "exclude":
        arguments[0] = below(5);
        break;
      case "setOption":
        refineOption(arguments);
        break;
      default:
        break;
    }
  }

  private static void refineOption(Object[] arguments) {
    int[][] ranges = {{55, 95}, {10, 90}, {0, 3}, {1, 9}, {1, 9}, {1, 9}};
    int option = below(6);
    int[] range = ranges[option];
    int value = range[0] + below(range[1] - range[0] + 1);
    int extreme = below(4);
    arguments[0] = option;
    arguments[1] = extreme == 0 ? range[0] : extreme == 1 ? range[1] : value;
  }

  private static Method method(Class<?> type, String name) {
    for (Method method : type.getDeclaredMethods()) {
      if (method.getName().equals(name) && (method.getModifiers() & 1) != 0) {
        return method;
      }
    }
    throw new IllegalArgumentException(name);
  }

  private static Object call(Object target, String name, Object[] arguments) {
    if (name.equals("read") && arguments.length == 1) {
      for (char c : ((String) arguments[0]).toCharArray()) {
        Check.answer(() -> call(target, "append", new Object[] {c}));
      }
      return call(target, "read", new Object[0]);
    }
    try {
      return method(target.getClass(), name).invoke(target, arguments);
    } catch (InvocationTargetException e) {
      throw (RuntimeException) e.getCause();
    } catch (IllegalAccessException e) {
      throw new IllegalArgumentException(e);
    }
  }
}

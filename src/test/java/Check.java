import java.util.Objects;

/** Counts the answers that are not as due, and ends a test with exit code 1 if there was one. */
final class Check {
  interface Call {
    Object run();
  }

  interface Act {
    void run();
  }

  private static int wrong = 0;
  private static int made = 0;

  private Check() {
  }

  /** The answer of a call, or the name of the exception that it throws. */
  static Object answer(Call call) {
    try {
      return call.run();
    } catch (RuntimeException e) {
      return e.getClass().getSimpleName();
    }
  }

  static void due(String what, Call call, Object want) {
    made++;
    Object got = answer(call);
    if (!Objects.equals(got, want)) {
      wrong++;
      System.out.println(what + " answered " + got + ", due is " + want);
    }
  }

  static void done(String what, Act act) {
    due(what, () -> {
      act.run();
      return "done";
    }, "done");
  }

  static void illegal(String what, Call call) {
    due(what, call, "IllegalArgumentException");
  }

  static void missing(String what, Call call) {
    due(what, call, "NoSuchElementException");
  }

  static void badState(String what, Call call) {
    due(what, call, "IllegalStateException");
  }

  static void badIndex(String what, Call call) {
    due(what, call, "IndexOutOfBoundsException");
  }

  static void badArithmetic(String what, Call call) {
    due(what, call, "ArithmeticException");
  }

  /** Makes a call without an answer into one with an answer. */
  static Call of(Act act) {
    return () -> {
      act.run();
      return "done";
    };
  }

  static void write(SpatialPoints points, String text) {
    for (int i = 0; i < text.length(); i++) {
      points.append(text.charAt(i));
    }
  }

  static void end() {
    System.out.println(made + " answers checked, " + wrong + " not as due");
    if (wrong != 0) {
      System.exit(1);
    }
  }
}

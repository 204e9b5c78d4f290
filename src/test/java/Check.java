import java.util.Objects;

/** Counts the answers that are not as due, and ends a test with exit code 1 if there was one. */
final class Check {
  interface Call {
    Object run();
  }

  interface Act {
    void run();
  }

  private static int wrong = 0;
  private static int made = 0;
  private static int runs = 0;

  private Check() {
  }

  /** The answer of a call, or the name of the exception that it throws. */
  static Object answer(Call call) {
    try {
      return call.run();
    } catch (RuntimeException e) {
      return e.getClass().getSimpleName();
    }
  }

  static void due(String what, Call call, Object want) {
    made++;
    Object got = answer(call);
    if (!Objects.equals(got, want)) {
      wrong++;
      System.out.println(what + " answered " + got + ", due is " + want);
    }
  }

  /** Compares texts of many lines, and tells the first line that is not as due. */
  static void same(String what, String got, String want) {
    String[] gots = got.split("\n");
    String[] wants = want.split("\n");
    int line = 0;
    while (line < gots.length - 1 && line < wants.length - 1 && gots[line].equals(wants[line])) {
      line++;
    }
    String gotLine = gots[line];
    due(what, () -> got.equals(want) ? "" : gotLine, got.equals(want) ? "" : wants[line]);
  }

  static void countRun() {
    runs++;
  }

  static void done(String what, Act act) {
    due(what, () -> {
      act.run();
      return "done";
    }, "done");
  }

  static void illegal(String what, Call call) {
    due(what, call, "IllegalArgumentException");
  }

  static void missing(String what, Call call) {
    due(what, call, "NoSuchElementException");
  }

  static void badState(String what, Call call) {
    due(what, call, "IllegalStateException");
  }

  static void badIndex(String what, Call call) {
    due(what, call, "IndexOutOfBoundsException");
  }

  static void badArithmetic(String what, Call call) {
    due(what, call, "ArithmeticException");
  }

  /** Makes a call without an answer into one with an answer. */
  static Call of(Act act) {
    return () -> {
      act.run();
      return "done";
    };
  }

  static void write(SpatialPoints points, String text) {
    for (int i = 0; i < text.length(); i++) {
      points.append(text.charAt(i));
    }
  }

  static void end() {
    if (runs > 0) {
      System.out.print(runs + " runs, ");
    }
    System.out.println(made + " answers checked, " + wrong + " not as due");
    if (wrong != 0) {
      System.exit(1);
    }
  }
}

/** The bounds of the query box in "Queries" and in the promises 33 to 38, a run for each sentence. */
public final class BoxBoundsTest {
  private static final int LEAST = Run.LEAST;
  private static final int GREATEST = Run.GREATEST;

  public static void main(String[] args) {
    firstBox();
    inclusive();
    promise33();
    lowerAboveUpper();
    promise34();
    promise35();
    promise36();
    promise37();
    promise38();
    promise38Bounds();
    promise38NoBox();
    Check.end();
  }

  private static String place(int axis, int value) {
    int[] place = new int[3];
    place[axis] = value;
    return place[0] + ", " + place[1] + ", " + place[2];
  }

  private static void firstBox() {
    Run run = Run.of("Queries", "a query box with a lower and an upper corner, at first both (0, 0, 0)")
        .at(0, 0, 0);
    for (int axis = 0; axis < 3; axis++) {
      run.calls("insert(" + place(axis, 1) + ", 1, 0)", "insert(" + place(axis, -1) + ", 1, 0)");
    }
    run.due("inBox()", 1).due("boxPoint(0)", 0).due("boxWeight()", 1);
  }

  private static void inclusive() {
    for (int axis = 0; axis < 3; axis++) {
      Run.of("Queries", "at least that of the lower corner and at most that of the upper corner")
          .calls("corner(0, -5, -5, -5)", "corner(1, 7, 7, 7)")
          .calls("insert(" + place(axis, -5) + ", 1, 0)").due("inBox()", 1)
          .calls("insert(" + place(axis, -6) + ", 1, 0)").due("inBox()", 1)
          .calls("insert(" + place(axis, 7) + ", 1, 0)").due("inBox()", 2)
          .calls("insert(" + place(axis, 8) + ", 1, 0)").due("inBox()", 2)
          .due("boxPoint(1)", 2);
    }
    Run.of("Queries", "if on each axis its coordinate is")
        .calls("corner(0, 3, 4, 5)", "corner(1, 3, 4, 5)")
        .at(3, 4, 5).at(2, 4, 5).at(4, 4, 5).at(3, 3, 5).at(3, 5, 5).at(3, 4, 4).at(3, 4, 6)
        .due("inBox()", 1).due("boxPoint(0)", 0);
  }

  private static void promise33() {
    Run.rich("33 corner", "Throws IndexOutOfBoundsException if corner is neither 0 nor 1")
        .refusesEach("corner($, 1, 1, 1)", Run.BAD_INDEX, -1, 2, LEAST, GREATEST);
    Run range = Run.rich("33 corner", "Throws IllegalArgumentException if a coordinate is out of range");
    for (int corner = 0; corner < 2; corner++) {
      for (int axis = 0; axis < 3; axis++) {
        for (int value : new int[] {-101, 101, LEAST, GREATEST}) {
          range.refuses("corner(" + corner + ", " + place(axis, value) + ")", Run.ILLEGAL);
        }
        Run.of("Queries", "coordinates from -100 to 100 are possible")
            .due("corner(" + corner + ", " + place(axis, -100) + ")", "done")
            .due("corner(" + corner + ", " + place(axis, 100) + ")", "done");
      }
    }
    range.refuses("corner(0, -9, -9, -101)", Run.ILLEGAL)
        .refuses("corner(1, 20, 20, 101)", Run.ILLEGAL);
    Run.of("33 corner", "0 for the lower, 1 for the upper corner")
        .at(-100, -100, -100).at(100, 100, 100)
        .due("corner(0, -100, -100, -100)", "done")
        .due("inBox()", 1).due("boxPoint(0)", 0)
        .due("corner(1, 100, 100, 100)", "done")
        .due("inBox()", 2).due("boxPoint(1)", 1)
        .due("corner(0, -99, -100, -100)", "done")
        .due("inBox()", 1).due("boxPoint(0)", 1)
        .due("corner(1, 100, 99, 100)", "done")
        .due("inBox()", 0);
  }

  private static void lowerAboveUpper() {
    for (int axis = 0; axis < 3; axis++) {
      Run.of("33 corner", "The lower corner may be above the upper one; then no point is in the box.")
          .at(0, 0, 0).calls("insert(" + place(axis, 1) + ", 1, 0)")
          .due("corner(0, " + place(axis, 1) + ")", "done")
          .due("inBox()", 0)
          .due("boxPoint(0)", Run.MISSING)
          .due("boxWeight()", 0)
          .due("center(0)", Run.BAD_ARITHMETIC)
          .due("corner(1, " + place(axis, 1) + ")", "done")
          .due("inBox()", 1)
          .due("corner(0, 100, 100, 100)", "done")
          .due("corner(1, -100, -100, -100)", "done")
          .due("inBox()", 0);
    }
  }

  private static void promise34() {
    Run.of("34 inBox", "Returns the number of visible points in the query box.")
        .due("inBox()", 0)
        .calls("insert(0, 0, 0, 1, 4)", "insert(0, 0, 0, 0, 5)", "insert(0, 0, 1, 1, 5)")
        .due("inBox()", 2)
        .calls("exclude(4, true)").due("inBox()", 1)
        .calls("remove(1)").due("inBox()", 0)
        .calls("exclude(4, false)").due("inBox()", 1);
    Run.of("34 inBox", "Returns the number of visible points in the query box.")
        .turnover(60).at(1, 2, 3)
        .due("inBox()", 0)
        .calls("corner(0, 1, 2, 3)", "corner(1, 1, 2, 3)")
        .due("inBox()", 60);
  }

  private static void promise35() {
    Run.of("35 boxPoint", "Throws NoSuchElementException if there is no such index")
        .refusesEach("boxPoint($)", Run.MISSING, 0, -1, LEAST, GREATEST)
        .at(0, 0, 0)
        .due("boxPoint(0)", 0)
        .refusesEach("boxPoint($)", Run.MISSING, -1, 1);
    // In the box of Rich, the points 0 and 1 are visible; 8 and 12 are excluded.
    Run.rich("35 boxPoint", "Throws NoSuchElementException if there is no such index")
        .due("boxPoint(1)", 1)
        .refusesEach("boxPoint($)", Run.MISSING, -1, 2, 3, 59, 60, LEAST, GREATEST);
    Run.of("35 boxPoint", "these points are ordered by their numbers")
        .at(1, 0, 0).at(0, 0, 0).at(5, 0, 0).at(-1, 0, 0).at(0, 0, 0)
        .calls("corner(0, -1, 0, 0)", "corner(1, 1, 0, 0)")
        .due("boxPoint(0)", 0).due("boxPoint(1)", 1).due("boxPoint(2)", 3).due("boxPoint(3)", 4);
    Run.of("35 boxPoint", "the index in this order, from 0").turnover(60).at(1, 2, 3)
        .calls("corner(0, 1, 2, 3)", "corner(1, 1, 2, 3)")
        .due("boxPoint(0)", 1).due("boxPoint(59)", 60)
        .refuses("boxPoint(60)", Run.MISSING);
  }

  private static void promise36() {
    Run.of("36 boxWeight", "Returns the sum of the weights of the visible points in the query box.")
        .due("boxWeight()", 0)
        .calls("insert(0, 0, 0, 0, 4)").due("boxWeight()", 0)
        .calls("insert(0, 0, 0, 99, 5)").due("boxWeight()", 99)
        .calls("insert(0, 1, 0, 50, 5)").due("boxWeight()", 99)
        .calls("insert(0, 0, 0, 2, 4)").due("boxWeight()", 101)
        .calls("exclude(5, true)").due("boxWeight()", 2)
        .calls("remove(3)").due("boxWeight()", 0);
    Run full = Run.of("36 boxWeight", "Returns the sum.");
    for (int i = 0; i < 60; i++) {
      full.calls("insert(0, 0, 0, 99, 0)");
    }
    full.due("boxWeight()", 5940);
  }

  private static void promise37() {
    Run.of("37 center", "Throws ArithmeticException if the sum of the weights is 0")
        .refusesEach("center($)", Run.BAD_ARITHMETIC, 0, 1, 2)
        .calls("insert(0, 0, 0, 0, 0)")
        .refusesEach("center($)", Run.BAD_ARITHMETIC, 0, 1, 2)
        .calls("insert(0, 0, 0, 1, 1)")
        .due("center(0)", 0.0)
        .calls("exclude(1, true)")
        .refuses("center(0)", Run.BAD_ARITHMETIC)
        .calls("exclude(1, false)", "remove(1)")
        .refuses("center(0)", Run.BAD_ARITHMETIC);
    Run.rich("37 center", "Throws IllegalArgumentException if there is no such axis")
        .refusesEach("center($)", Run.ILLEGAL, -1, 3, LEAST, GREATEST);
    Run.of("37 center", "the sum of the products of coordinate and weight divided by the sum of the "
        + "weights, both as doubles")
        .calls("corner(0, -100, -100, -100)", "corner(1, 100, 100, 100)")
        .calls("insert(10, -20, 100, 1, 0)", "insert(20, -21, -100, 2, 0)", "insert(9, 9, 9, 0, 0)")
        .due("center(0)", 50.0 / 3.0).due("center(1)", -62.0 / 3.0).due("center(2)", -100.0 / 3.0);
    Run full = Run.of("37 center", "the sum of the products of coordinate and weight")
        .calls("corner(0, -100, -100, -100)", "corner(1, 100, 100, 100)");
    for (int i = 0; i < 60; i++) {
      full.calls("insert(100, -100, 99, 99, 0)");
    }
    full.due("center(0)", 100.0).due("center(1)", -100.0).due("center(2)", 99.0);
  }

  private static void promise38() {
    Run.of("38 visits", "Returns the number of nodes visited, 0 for the empty tree.")
        .due("visits()", 0)
        .calls("corner(0, -100, -100, -100)", "corner(1, 100, 100, 100)")
        .due("visits()", 0)
        .at(5, 5, 5)
        .due("visits()", 1)
        .calls("remove(0)")
        .due("visits()", 0);
    Run full = Run.of("38 visits", "leads to visits of its left and its right child, if they exist")
        .calls("corner(0, -100, -100, -100)", "corner(1, 100, 100, 100)").turnover(60).at(1, 2, 3)
        .due("count(1)", 1);
    full.due("visits()", full.number("subtree(" + full.number("root()") + ", 0)"))
        .due("visits()", 61)
        .calls("corner(0, 2, 2, 3)")
        .due("visits()", 1);
    Run.of("38 visits", "other nodes lead to no further visits")
        .at(0, 0, 0).at(-10, 0, 0).at(10, 0, 0).at(-20, -5, 0).at(20, 5, 0)
        .due("visits()", 3)
        .calls("corner(0, -10, 0, 0)", "corner(1, -10, 0, 0)")
        .due("visits()", 4)
        .calls("exclude(0, true)")
        .due("visits()", 4);
  }

  /** The box of the root reaches from -1 to 2 on each axis; it has two children. */
  private static void promise38Bounds() {
    String sentence = "has a point with integer coordinates in common with the query box";
    for (int axis = 0; axis < 3; axis++) {
      Run.of("38 visits", sentence)
          .at(0, 0, 0).at(-1, -1, -1).at(2, 2, 2)
          .calls("corner(0, " + place(axis, 2) + ")", "corner(1, " + place(axis, 2) + ")")
          .due("visits()", 3)
          .calls("corner(1, " + place(axis, 3) + ")")
          .due("visits()", 3)
          .calls("corner(0, " + place(axis, 3) + ")")
          .due("visits()", 1)
          .calls("corner(0, " + place(axis, -1) + ")", "corner(1, " + place(axis, -1) + ")")
          .due("visits()", 3)
          .calls("corner(0, " + place(axis, -2) + ")")
          .due("visits()", 3)
          .calls("corner(1, " + place(axis, -2) + ")")
          .due("visits()", 1)
          .calls("corner(0, " + place(axis, 1) + ")", "corner(1, " + place(axis, 0) + ")")
          .due("visits()", 1);
    }
  }

  private static void promise38NoBox() {
    Run.of("38 visits", "a visited node whose bounding box exists")
        .calls("setOption(1, 90)", "corner(0, -100, -100, -100)", "corner(1, 100, 100, 100)")
        .at(0, 0, 0).at(-1, 0, 0).at(1, 0, 0).at(-2, -1, 0).at(2, 1, 0)
        .due("visits()", 5)
        .calls("remove(1)")
        .due("visits()", 5)
        .calls("remove(3)")
        .due("visits()", 4)
        .calls("remove(0)", "remove(4)")
        .due("visits()", 4);
  }
}

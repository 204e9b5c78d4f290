/** The bounds that "Metrics", "Queries" and the promises 21 to 26 name, a run for each sentence. */
public final class DistanceBoundsTest {
  private static final int LEAST = Run.LEAST;
  private static final int GREATEST = Run.GREATEST;
  private static final int[] NO_POINTS = {-1, 13, 199, 200, -200, LEAST, GREATEST};

  public static void main(String[] args) {
    metrics();
    greatestDifference();
    boxDistances();
    firstQueryPoint();
    exclusions();
    promise21();
    promise22();
    promise23();
    promise24();
    promise25();
    promise26();
    Check.end();
  }

  private static void metrics() {
    String sentence = "their distance is a + b + c with metric 0, the greatest one of a, b and c with metric "
        + "1, a * a + b * b + c * c with metric 2, and the factor of axis 0 times a plus the factor of axis "
        + "1 times b plus the factor of axis 2 times c with metric 3";
    Run.of("Metrics", sentence)
        .at(100, 100, 100)
        .calls("query(-100, -100, -100)")
        .due("distance(0)", 600)
        .calls("setOption(2, 1)").due("distance(0)", 200)
        .calls("setOption(2, 2)").due("distance(0)", 120000)
        .calls("setOption(2, 3)").due("distance(0)", 600)
        .calls("setOption(3, 9)", "setOption(4, 9)", "setOption(5, 9)").due("distance(0)", 5400)
        .calls("query(100, 100, 100)")
        .due("distance(0)", 0)
        .calls("setOption(2, 2)").due("distance(0)", 0)
        .calls("setOption(2, 1)").due("distance(0)", 0)
        .calls("setOption(2, 0)").due("distance(0)", 0);
    Run.of("Metrics", sentence)
        .at(-1, 20, -30)
        .calls("query(1, 23, -35)", "setOption(3, 2)", "setOption(4, 3)", "setOption(5, 7)")
        .due("distance(0)", 2 + 3 + 5)
        .calls("setOption(2, 1)").due("distance(0)", 5)
        .calls("setOption(2, 2)").due("distance(0)", 4 + 9 + 25)
        .calls("setOption(2, 3)").due("distance(0)", 2 * 2 + 3 * 3 + 7 * 5);
  }

  private static void greatestDifference() {
    Run.of("Metrics", "the greatest one of a, b and c with metric 1")
        .calls("setOption(2, 1)")
        .at(-7, 6, 6).at(6, -7, 6).at(6, 6, -7).at(7, 7, 7).at(-7, 7, 0).at(0, 7, -7).at(7, 0, 7)
        .dueForEach("distance($)", 7, 0, 1, 2, 3, 4, 5, 6);
  }

  /** The box of the root reaches from -10 to 10, from -20 to 20 and from -30 to 30. */
  private static void boxDistances() {
    String sentence = "0 if the coordinate of the query point lies between the two bounds or is equal to one "
        + "of them, and otherwise its difference to the closer bound";
    Run run = Run.of("Metrics", sentence)
        .at(0, 0, 0).at(-10, -20, -30).at(10, 20, 30);
    int[] bounds = {10, 20, 30};
    for (int axis = 0; axis < 3; axis++) {
      int b = bounds[axis];
      int[][] rows = {{b, 0}, {-b, 0}, {b - 1, 0}, {1 - b, 0}, {0, 0}, {b + 1, 1}, {-b - 1, 1},
          {100, 100 - b}, {-100, 100 - b}};
      for (int[] row : rows) {
        int[] q = new int[3];
        q[axis] = row[0];
        run.calls("query(" + q[0] + ", " + q[1] + ", " + q[2] + ")")
            .due("boxDistance(0)", row[1]);
      }
    }
    run.calls("query(12, -23, 35)", "setOption(3, 2)", "setOption(4, 3)", "setOption(5, 7)")
        .due("boxDistance(0)", 2 + 3 + 5)
        .calls("setOption(2, 1)").due("boxDistance(0)", 5)
        .calls("setOption(2, 2)").due("boxDistance(0)", 4 + 9 + 25)
        .calls("setOption(2, 3)").due("boxDistance(0)", 2 * 2 + 3 * 3 + 7 * 5)
        .calls("query(10, -20, 30)").due("boxDistance(0)", 0)
        .calls("remove(1)", "query(-1, -1, -1)").due("boxDistance(0)", 2 + 3 + 7);
  }

  private static void firstQueryPoint() {
    Run.of("Queries", "There is a query point, at first (0, 0, 0)")
        .at(0, 0, 0).at(-1, 2, -3)
        .due("distance(0)", 0)
        .due("distance(1)", 6)
        .calls("setOption(2, 3)", "setOption(3, 5)", "setOption(4, 6)", "setOption(5, 7)")
        .due("distance(1)", 5 + 12 + 21);
  }

  private static void exclusions() {
    Run first = Run.of("Queries", "Each tag is excluded or not, at first not.");
    for (int tag = 0; tag < 10; tag++) {
      first.due("insert(0, 0, 0, 1, " + tag + ")", tag)
          .due("count(3)", tag + 1)
          .due("exclude(" + tag + ", false)", false);
    }
    Run each = Run.of("Queries", "Each tag is excluded or not");
    for (int tag = 0; tag < 10; tag++) {
      each.calls("insert(0, 0, 0, 1, " + tag + ")");
    }
    for (int tag = 0; tag < 10; tag++) {
      each.due("exclude(" + tag + ", true)", false)
          .due("count(3)", 9)
          .due("followers(" + tag + ")", Run.MISSING)
          .due("exclude(" + tag + ", false)", true)
          .due("count(3)", 10);
    }
    Run.of("Queries", "A point is visible if it is live and its tag is not excluded.")
        .calls("insert(0, 0, 0, 1, 4)", "insert(0, 0, 0, 1, 5)")
        .due("count(3)", 2)
        .calls("exclude(4, true)").due("count(3)", 1).due("nearest(0)", 1)
        .calls("remove(1)").due("count(3)", 0).due("nearest(0)", Run.MISSING)
        .calls("exclude(4, false)").due("count(3)", 1).due("nearest(0)", 0)
        .calls("exclude(6, true)", "label(0, 1, 6)").due("count(3)", 0)
        .calls("label(0, 1, 7)").due("count(3)", 1);
  }

  private static void promise21() {
    String[] calls = {"query($, 0, 0)", "query(0, $, 0)", "query(0, 0, $)"};
    Run range = Run.rich("21 query", "Throws IllegalArgumentException if a coordinate is out of range");
    for (int axis = 0; axis < 3; axis++) {
      range.refusesEach(calls[axis], Run.ILLEGAL, -101, 101, LEAST, GREATEST);
      Run.of("Queries", "coordinates from -100 to 100 are possible")
          .at(0, 0, 0)
          .due(calls[axis].replace("$", "-100"), "done").due("distance(0)", 100)
          .due(calls[axis].replace("$", "100"), "done").due("distance(0)", 100)
          .refusesEach(calls[axis], Run.ILLEGAL, -101, 101)
          .due("distance(0)", 100);
    }
    range.refuses("query(101, -101, 101)", Run.ILLEGAL)
        .refuses("query(2, 3, 101)", Run.ILLEGAL)
        .refuses("query(2, 101, 4)", Run.ILLEGAL);
    Run.of("21 query", "Sets the query point.")
        .at(10, 20, 30)
        .calls("setOption(2, 3)", "setOption(4, 2)", "setOption(5, 3)", "query(9, 18, 27)")
        .due("distance(0)", 1 + 2 * 2 + 3 * 3)
        .calls("query(0, 0, 0)")
        .due("distance(0)", 10 + 40 + 90);
  }

  private static void promise22() {
    Run.of("22 exclude", "Returns whether it was excluded before.")
        .due("exclude(0, true)", false).due("exclude(0, true)", true).due("exclude(9, true)", false)
        .due("exclude(0, false)", true).due("exclude(0, false)", false).due("exclude(9, false)", true);
    Run.rich("22 exclude", "Throws IllegalArgumentException if there is no such tag")
        .refusesEach("exclude($, true)", Run.ILLEGAL, -1, 10, LEAST, GREATEST)
        .refusesEach("exclude($, false)", Run.ILLEGAL, -1, 10, LEAST, GREATEST);
  }

  private static void promise23() {
    Run.rich("23 distance", "Returns the distance of a point, live or not, and the query point.")
        .calls("setOption(2, 0)")
        .due("distance(8)", 4)
        .due("distance(10)", 39 + 28 + 17)
        .due("distance(11)", 40 + 29 + 18)
        .due("distance(12)", 4);
    Run.rich("23 distance", "Throws NoSuchElementException if there is no such point")
        .refusesEach("distance($)", Run.MISSING, NO_POINTS);
    Run.of("23 distance", "Throws NoSuchElementException if there is no such point")
        .refuses("distance(0)", Run.MISSING);
  }

  private static void promise24() {
    String sentence = "Throws NoSuchElementException if the point is not in the tree or its subtree has no "
        + "live points";
    Run.rich("24 boxDistance", sentence)
        .refusesEach("boxDistance($)", Run.MISSING, NO_POINTS)
        .refuses("boxDistance(10)", Run.MISSING);
    Run.of("24 boxDistance", sentence)
        .refuses("boxDistance(0)", Run.MISSING)
        .line(0, 3)
        .calls("remove(2)")
        .refuses("boxDistance(2)", Run.MISSING)
        .due("boxDistance(1)", 3)
        .calls("setOption(1, 90)", "remove(1)")
        .refuses("boxDistance(1)", Run.MISSING)
        .due("boxDistance(0)", 0);
    Run.of("24 boxDistance", "Returns the distance of the bounding box of a node and the query point.")
        .calls("insert(5, 6, 7, 1, 0)", "exclude(0, true)")
        .due("boxDistance(0)", 18)
        .calls("insert(-5, -6, -7, 1, 0)")
        .due("boxDistance(0)", 0)
        .due("boxDistance(1)", 18)
        .calls("remove(0)")
        .due("boxDistance(0)", 18);
  }

  private static void promise25() {
    Run.of("25 nearest", "Throws NoSuchElementException if there is no such index")
        .refusesEach("nearest($)", Run.MISSING, 0, -1, LEAST, GREATEST)
        .at(0, 0, 0)
        .due("nearest(0)", 0)
        .refusesEach("nearest($)", Run.MISSING, -1, 1);
    Run.rich("25 nearest", "Throws NoSuchElementException if there is no such index")
        .refusesEach("nearest($)", Run.MISSING, -1, 9, 10, LEAST, GREATEST)
        .due("nearest(8)", 9);
    Run.of("25 nearest", "Throws NoSuchElementException if there is no such index")
        .line(0, 60)
        .due("nearest(59)", 59)
        .refuses("nearest(60)", Run.MISSING);
    Run.of("25 nearest", "the points are ordered by their distances, and equal ones by their numbers")
        .at(2, 0, 0).at(0, 1, 0).at(0, 0, 2).at(-1, 0, 0).at(1, 1, 0).at(0, 0, 1)
        .due("nearest(0)", 1).due("nearest(1)", 3).due("nearest(2)", 5)
        .due("nearest(3)", 0).due("nearest(4)", 2).due("nearest(5)", 4);
  }

  private static void promise26() {
    Run.of("26 farthest", "Throws NoSuchElementException if no point is visible")
        .refuses("farthest()", Run.MISSING)
        .calls("insert(0, 0, 0, 1, 0)")
        .due("farthest()", 0)
        .calls("exclude(0, true)")
        .refuses("farthest()", Run.MISSING)
        .calls("exclude(0, false)", "remove(0)")
        .refuses("farthest()", Run.MISSING);
    Run.of("26 farthest", "among several the one with the smallest number")
        .at(0, 0, 0).at(1, 0, 0).at(0, -1, 0).at(0, 0, 1)
        .due("farthest()", 1)
        .at(0, 0, 2).at(2, 0, 0)
        .due("farthest()", 4)
        .calls("remove(4)")
        .due("farthest()", 5);
  }
}

/** The bounds that "Points" and the promises 1 to 9 name, a run for each sentence. */
public final class PointsBoundsTest {
  private static final int LEAST = Run.LEAST;
  private static final int GREATEST = Run.GREATEST;
  private static final String[] PLACES = {"insert($, 0, 0, 1, 0)", "insert(0, $, 0, 1, 0)",
      "insert(0, 0, $, 1, 0)"};
  private static final int[] NO_POINTS = {-1, 13, 199, 200, -200, LEAST, GREATEST};

  public static void main(String[] args) {
    ranges();
    numbers();
    limits();
    lives();
    before();
    promise1();
    promise2();
    promise3();
    promise4();
    promises5To7();
    promise8();
    promise9();
    promise9Coordinates();
    promise9InTheTree();
    Check.end();
  }

  private static void ranges() {
    for (int axis = 0; axis < 3; axis++) {
      String call = PLACES[axis];
      Run.rich("Points", "three integer coordinates on the axes 0, 1 and 2, from -100 to 100 each")
          .due(call.replace("$", "-100"), 13)
          .due(call.replace("$", "100"), 14)
          .due("coordinate(13, " + axis + ")", -100)
          .due("coordinate(14, " + axis + ")", 100)
          .refusesEach(call, Run.ILLEGAL, -101, 101);
    }
    Run.rich("Points", "a weight from 0 to 99")
        .due("insert(0, 0, 0, 0, 0)", 13)
        .due("insert(0, 0, 0, 99, 0)", 14)
        .due("weight(13)", 0)
        .due("weight(14)", 99)
        .refusesEach("insert(0, 0, 0, $, 0)", Run.ILLEGAL, -1, 100);
    Run.rich("Points", "and a tag from 0 to 9")
        .due("insert(0, 0, 0, 0, 0)", 13)
        .due("insert(0, 0, 0, 0, 9)", 14)
        .due("tag(13)", 0)
        .due("tag(14)", 9)
        .refusesEach("insert(0, 0, 0, 0, $)", Run.ILLEGAL, -1, 10);
  }

  private static void numbers() {
    Run.of("Points", "Points are numbered from 0 in the order of creation")
        .due("insert(5, 5, 5, 1, 0)", 0)
        .due("insert(4, 4, 4, 1, 0)", 1)
        .refuses("insert(101, 0, 0, 1, 0)", Run.ILLEGAL)
        .due("insert(3, 3, 3, 1, 0)", 2)
        .calls("remove(2)", "rebuild()")
        .due("insert(2, 2, 2, 1, 0)", 3)
        .text("1,1,1;0,0,0")
        .due("read()", 2)
        .due("coordinate(4, 0)", 1)
        .due("coordinate(5, 0)", 0)
        .text("9,9,9;0,0,101")
        .due("read()", Run.ILLEGAL)
        .due("insert(6, 6, 6, 1, 0)", 6);
  }

  private static void limits() {
    Run.of("Points", "at most 200 points are created")
        .turnover(199)
        .due("insert(-100, 100, 5, 99, 9)", 199)
        .due("count(2)", 200)
        .calls("remove(198)", "remove(197)")
        .due("count(0)", 58)
        .refuses("insert(0, 0, 0, 1, 0)", Run.BAD_STATE)
        .due("coordinate(199, 0)", -100).due("coordinate(199, 1)", 100).due("coordinate(199, 2)", 5)
        .due("weight(199)", 99).due("tag(199)", 9).due("isLive(199)", true)
        .due("isLive(200)", false);
    Run.of("Points", "at most 60 points are live at the same time")
        .line(0, 59)
        .due("insert(0, 0, 0, 1, 0)", 59)
        .due("count(0)", 60)
        .refuses("insert(0, 0, 0, 1, 0)", Run.BAD_STATE)
        .due("remove(30)", 59)
        .due("insert(0, 0, 0, 1, 0)", 60)
        .due("count(0)", 60)
        .refuses("insert(0, 0, 0, 1, 0)", Run.BAD_STATE);
    Run.of("Points", "Several points can have the same coordinates.")
        .turnover(60)
        .due("insert(1, 2, 3, 1, 0)", 60)
        .due("count(0)", 60)
        .calls("query(1, 2, 3)")
        .due("within(0)", 60)
        .due("nearest(59)", 60)
        .due("clusters(0)", 1)
        .due("closestPair(2)", 0);
  }

  private static void lives() {
    Run.of("Points", "A point is live from its creation until it is removed")
        .due("isLive(0)", false)
        .calls("insert(0, 0, 0, 1, 0)")
        .due("isLive(0)", true)
        .text("1,1,1;2,2,2")
        .due("isLive(1)", false)
        .calls("read()")
        .due("isLive(1)", true)
        .due("isLive(2)", true)
        .calls("rebuild()", "exclude(0, true)", "label(1, 0, 9)")
        .due("isLive(1)", true)
        .calls("remove(1)")
        .due("isLive(1)", false)
        .calls("rebuild()", "insert(1, 1, 1, 1, 0)")
        .due("isLive(1)", false)
        .due("isLive(3)", true);
  }

  private static void before() {
    String sentence = "a point is before another one if its coordinate on this axis is smaller, or if "
        + "these are equal and its number is smaller";
    Run.of("Points", sentence)
        .at(5, 5, 5).at(4, 5, 5).at(5, 5, 5)
        .due("child(0, 0)", 1)
        .due("child(0, 1)", 2);
    Run.of("Points", sentence)
        .at(5, 5, 5).at(4, 4, 5).at(6, 4, 5).at(6, 4, 5).at(6, 3, 5)
        .due("child(2, 0)", 4)
        .due("child(2, 1)", 3);
    Run.of("Points", sentence)
        .calls("setOption(0, 95)")
        .at(5, 5, 5).at(5, 5, 5).at(5, 5, 5).at(5, 5, 4).at(5, 5, 5)
        .due("child(2, 0)", 3)
        .due("child(2, 1)", 4);
    Run.of("Points", sentence)
        .at(5, 5, 5).at(5, 5, 5).at(5, 5, 5).at(4, 9, 9)
        .calls("rebuild()")
        .due("root()", 1)
        .due("child(1, 0)", 3)
        .due("child(3, 0)", 0)
        .due("child(1, 1)", 2);
  }

  private static void promise1() {
    int[] values = {70, 50, 0, 1, 1, 1};
    Run options = Run.of("1 SpatialPoints", "with the initial options");
    for (int option = 0; option < 6; option++) {
      options.due("setOption(" + option + ", " + values[option] + ")", values[option]);
    }
    Run.of("1 SpatialPoints", "Creates an empty index")
        .dueForEach("count($)", 0, 0, 1, 2, 3)
        .dueForEach("rebuilds($)", 0, 0, 1, 2, 3)
        .due("height()", 0)
        .due("root()", Run.MISSING)
        .due("isLive(0)", false)
        .due("weight(0)", Run.MISSING)
        .due("visits()", 0)
        .due("faultPosition()", -1)
        .due("hasNext()", Run.BAD_STATE)
        .due("restore()", Run.BAD_STATE)
        .due("read()", Run.ILLEGAL)
        .due("faultPosition()", 0)
        .due("insert(0, 0, 0, 0, 0)", 0);
  }

  private static void promise2() {
    Run range = Run.rich("2 insert", "Throws IllegalArgumentException if an argument is out of range");
    for (String call : PLACES) {
      range.refusesEach(call, Run.ILLEGAL, -101, 101, LEAST, GREATEST);
    }
    range.refusesEach("insert(0, 0, 0, $, 0)", Run.ILLEGAL, -1, 100, LEAST, GREATEST)
        .refusesEach("insert(0, 0, 0, 0, $)", Run.ILLEGAL, -1, 10, LEAST, GREATEST)
        .due("insert(100, 100, 100, 99, 9)", 13);
    Run.of("2 insert", "Throws IllegalStateException if 60 points are live or 200 points were created")
        .turnover(199)
        .due("count(0)", 59)
        .due("insert(0, 0, 0, 1, 0)", 199)
        .refuses("insert(0, 0, 0, 1, 0)", Run.BAD_STATE)
        .due("remove(199)", 59)
        .refuses("insert(0, 0, 0, 1, 0)", Run.BAD_STATE);
    Run.of("2 insert", "Returns the number of the point.")
        .due("insert(0, 0, 0, 1, 0)", 0)
        .due("insert(0, 0, 0, 1, 0)", 1);
  }

  private static void promise3() {
    String throwing = "Throws NoSuchElementException if there is no such live point";
    Run.rich("3 remove", throwing)
        .refusesEach("remove($)", Run.MISSING, NO_POINTS)
        .refusesEach("remove($)", Run.MISSING, 10, 11)
        .due("remove(12)", 10)
        .refuses("remove(12)", Run.MISSING)
        .due("remove(0)", 9);
    Run.of("3 remove", throwing).refusesEach("remove($)", Run.MISSING, 0, -1, LEAST, GREATEST);
    Run.of("3 remove", "Returns the number of live points afterwards.")
        .turnover(60).at(1, 2, 3)
        .due("remove(60)", 59)
        .due("remove(59)", 58)
        .due("count(0)", 58);
    Run.of("3 remove", "Returns the number of live points afterwards.")
        .at(0, 0, 0).at(0, 0, 0)
        .due("remove(0)", 1)
        .due("remove(1)", 0)
        .due("count(0)", 0)
        .refuses("remove(1)", Run.MISSING);
  }

  private static void promise4() {
    Run.rich("4 isLive", "Returns whether a point exists and is live.")
        .dueForEach("isLive($)", false, NO_POINTS)
        .dueForEach("isLive($)", true, 0, 9, 12)
        .dueForEach("isLive($)", false, 10, 11);
    Run.of("4 isLive", "Returns whether a point exists and is live.")
        .dueForEach("isLive($)", false, 0, -1, LEAST, GREATEST);
  }

  private static void promises5To7() {
    Run.rich("5 coordinate", "Returns a coordinate of a point, live or not.")
        .due("coordinate(0, 0)", -5).due("coordinate(0, 1)", -6).due("coordinate(0, 2)", -7)
        .due("coordinate(10, 0)", 40).due("coordinate(10, 1)", -30).due("coordinate(10, 2)", 20)
        .due("coordinate(11, 0)", 41).due("coordinate(11, 1)", -31).due("coordinate(11, 2)", 21)
        .due("coordinate(12, 0)", 1).due("coordinate(12, 1)", 2).due("coordinate(12, 2)", 3);
    Run.rich("5 coordinate", "Throws NoSuchElementException if there is no such point")
        .refusesEach("coordinate($, 0)", Run.MISSING, NO_POINTS);
    Run.of("5 coordinate", "Throws NoSuchElementException if there is no such point")
        .refuses("coordinate(0, 0)", Run.MISSING);
    Run.rich("5 coordinate", "Throws IllegalArgumentException if there is no such axis")
        .refusesEach("coordinate(0, $)", Run.ILLEGAL, -1, 3, LEAST, GREATEST)
        .refusesEach("coordinate(11, $)", Run.ILLEGAL, -1, 3)
        .refusesEach("coordinate(12, $)", Run.ILLEGAL, -1, 3);
    Run.rich("6 weight", "Returns the weight of a point, live or not.")
        .due("weight(0)", 3).due("weight(1)", 0).due("weight(10)", 31).due("weight(11)", 37)
        .due("weight(12)", 41);
    Run.rich("6 weight", "Throws NoSuchElementException if there is no such point")
        .refusesEach("weight($)", Run.MISSING, NO_POINTS);
    Run.of("6 weight", "Throws NoSuchElementException if there is no such point")
        .refuses("weight(0)", Run.MISSING);
    Run.rich("7 tag", "Returns the tag of a point, live or not.")
        .due("tag(0)", 1).due("tag(9)", 9).due("tag(10)", 0).due("tag(11)", 0).due("tag(12)", 5);
    Run.rich("7 tag", "Throws NoSuchElementException if there is no such point")
        .refusesEach("tag($)", Run.MISSING, NO_POINTS);
    Run.of("7 tag", "Throws NoSuchElementException if there is no such point")
        .refuses("tag(0)", Run.MISSING);
  }

  private static void promise8() {
    Run.rich("8 label", "Sets the weight and the tag of a point, live or not.")
        .due("label(0, 99, 9)", 31).due("weight(0)", 99).due("tag(0)", 9)
        .due("label(10, 0, 1)", 310).due("weight(10)", 0).due("tag(10)", 1)
        .due("label(11, 1, 0)", 370).due("weight(11)", 1).due("tag(11)", 0)
        .due("isLive(10)", false).due("isLive(11)", false);
    Run.of("8 label", "Returns 10 times the previous weight plus the previous tag.")
        .calls("insert(0, 0, 0, 0, 0)")
        .due("label(0, 99, 9)", 0)
        .due("label(0, 0, 9)", 999)
        .due("label(0, 99, 0)", 9)
        .due("label(0, 1, 1)", 990);
    Run.rich("8 label", "Throws NoSuchElementException if there is no such point")
        .refusesEach("label($, 1, 1)", Run.MISSING, NO_POINTS);
    Run.of("8 label", "Throws NoSuchElementException if there is no such point")
        .refuses("label(0, 1, 1)", Run.MISSING);
    Run.rich("8 label", "Throws IllegalArgumentException if weight or tag is out of range")
        .refusesEach("label(0, $, 1)", Run.ILLEGAL, -1, 100, LEAST, GREATEST)
        .refusesEach("label(0, 1, $)", Run.ILLEGAL, -1, 10, LEAST, GREATEST)
        .refusesEach("label(10, $, 1)", Run.ILLEGAL, -1, 100)
        .refusesEach("label(11, 1, $)", Run.ILLEGAL, -1, 10);
  }

  private static void promise9() {
    String[] calls = {"shift($, 0, 0)", "shift(0, $, 0)", "shift(0, 0, $)"};
    String sentence = "Throws IllegalArgumentException if a shift is not from -200 to 200";
    for (int axis = 0; axis < 3; axis++) {
      Run.rich("9 shift", sentence)
          .refusesEach(calls[axis], Run.ILLEGAL, -201, 201, LEAST, GREATEST);
      Run.of("9 shift", sentence)
          .refusesEach(calls[axis], Run.ILLEGAL, -201, 201, LEAST, GREATEST)
          .at(100, 100, 100)
          .due(calls[axis].replace("$", "-200"), 1)
          .due("coordinate(0, " + axis + ")", -100)
          .refusesEach(calls[axis], Run.ILLEGAL, -201, 201)
          .due(calls[axis].replace("$", "200"), 1)
          .due("coordinate(0, " + axis + ")", 100);
    }
    Run.of("9 shift", "Returns the number of points shifted.")
        .due("shift(200, -200, 200)", 0)
        .at(0, 0, 0)
        .due("shift(0, 0, 0)", 1)
        .calls("remove(0)")
        .due("shift(200, 200, 200)", 0)
        .due("coordinate(0, 0)", 0);
    Run.of("9 shift", "Returns the number of points shifted.")
        .turnover(60).at(1, 2, 3)
        .due("count(1)", 1)
        .due("shift(1, 1, 1)", 61);
  }

  private static void promise9Coordinates() {
    String sentence = "Throws ArithmeticException if a coordinate of one of these points would not be "
        + "from -100 to 100";
    // Point 9 is the farthest one on each axis, and on the other sides these are 11, 11 and 11.
    Run.rich("9 shift", sentence)
        .refuses("shift(-51, 0, 0)", Run.BAD_ARITHMETIC)
        .refuses("shift(60, 0, 0)", Run.BAD_ARITHMETIC)
        .refuses("shift(0, 41, 0)", Run.BAD_ARITHMETIC)
        .refuses("shift(0, -70, 0)", Run.BAD_ARITHMETIC)
        .refuses("shift(0, 0, -31)", Run.BAD_ARITHMETIC)
        .refuses("shift(0, 0, 80)", Run.BAD_ARITHMETIC)
        .refuses("shift(200, 200, 200)", Run.BAD_ARITHMETIC)
        .refuses("shift(-200, -200, -200)", Run.BAD_ARITHMETIC)
        .due("shift(-50, 40, -30)", 12)
        .due("coordinate(9, 0)", -100).due("coordinate(9, 1)", 100).due("coordinate(9, 2)", -100)
        .due("shift(109, -109, 109)", 12)
        .due("coordinate(11, 0)", 100).due("coordinate(11, 1)", -100).due("coordinate(11, 2)", 100)
        .due("coordinate(10, 0)", 40).due("coordinate(10, 1)", -30).due("coordinate(10, 2)", 20);
  }

  private static void promise9InTheTree() {
    Run.of("9 shift", "Shifts all points that are in the tree.")
        .at(100, 0, 0).at(0, 0, 0).at(1, 0, 0)
        .calls("remove(0)")
        .refuses("shift(1, 0, 0)", Run.BAD_ARITHMETIC)
        .due("shift(-1, -2, -3)", 3)
        .due("coordinate(0, 0)", 99).due("coordinate(0, 1)", -2).due("coordinate(0, 2)", -3)
        .calls("rebuild()")
        .due("shift(2, 2, 2)", 2)
        .due("coordinate(0, 0)", 99).due("coordinate(0, 1)", -2)
        .due("coordinate(2, 0)", 2).due("coordinate(2, 1)", 0);
    Run.of("9 shift", "The structure of the tree stays the same.")
        .at(0, 0, 0).at(-1, 0, 0).at(1, 0, 0).at(1, 1, 0)
        .calls("open(2)", "shift(99, 50, -100)")
        .due("next()", 0)
        .due("root()", 0)
        .due("child(0, 0)", 1).due("child(0, 1)", 2).due("child(2, 1)", 3)
        .dueForEach("rebuilds($)", 0, 0, 1, 2, 3);
    Run.of("9 shift", "Shifts all points that are in the tree.")
        .at(-1, -2, -3).at(1, 2, 3)
        .due("visits()", 2)
        .calls("shift(10, -20, 30)")
        .due("bound(0, 0, 0)", 9).due("bound(0, 1, 0)", -22).due("bound(0, 2, 0)", 27)
        .due("bound(0, 0, 1)", 11).due("bound(0, 1, 1)", -18).due("bound(0, 2, 1)", 33)
        .due("boxDistance(0)", 9 + 18 + 27)
        .due("visits()", 1)
        .due("inBox()", 0);
  }
}

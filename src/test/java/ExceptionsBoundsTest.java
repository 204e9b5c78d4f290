/**
 * "Exceptions": both sentences, at each method that they are about. The first one is also tested by
 * each call of Run.refuses in the other tests.
 */
public final class ExceptionsBoundsTest {
  private static final String UNCHANGED = "A call that throws an exception leaves the state unchanged";
  private static final String FIRST = "If several conditions of a method are fulfilled, the one that is listed "
      + "first determines the exception.";

  public static void main(String[] args) {
    unchangedWhenEmpty();
    unchangedWhenFull();
    unchangedWhenRich();
    insertFirst();
    pointsFirst();
    treeFirst();
    settingsFirst();
    queriesFirst();
    cursorFirst();
    Check.end();
  }

  private static void unchangedWhenEmpty() {
    refusedByAll(Run.of("Exceptions", UNCHANGED), 0)
        .refuses("root()", Run.MISSING).refuses("farthest()", Run.MISSING)
        .refuses("closestPair(0)", Run.MISSING).refuses("center(0)", Run.BAD_ARITHMETIC)
        .refuses("hasNext()", Run.BAD_STATE).refuses("next()", Run.BAD_STATE)
        .refuses("restore()", Run.BAD_STATE);
  }

  /** 60 points are live and 200 are created, so that nothing more fits in. */
  private static void unchangedWhenFull() {
    Run full = Run.of("Exceptions", UNCHANGED).turnover(199).at(7, 8, 9);
    full.due("count(0)", 60)
        .due("count(2)", 200)
        .refuses("insert(0, 0, 0, 1, 0)", Run.BAD_STATE)
        .refuses("insert(0, 0, 0, 1, 10)", Run.ILLEGAL)
        .refuses("remove(200)", Run.MISSING).refuses("remove(0)", Run.MISSING)
        .refuses("label(200, 1, 1)", Run.MISSING)
        .refuses("shift(94, 0, 0)", Run.BAD_ARITHMETIC)
        .refuses("child(200, 0)", Run.MISSING)
        .refuses("nearest(60)", Run.MISSING)
        .refuses("restore()", Run.BAD_STATE);
  }

  private static void unchangedWhenRich() {
    refusedByAll(Run.rich("Exceptions", UNCHANGED), 13)
        .refuses("shift(0, 0, 100)", Run.BAD_ARITHMETIC);
  }

  /** Each call with a number or an argument that there is not; none is the number of the first one. */
  private static Run refusedByAll(Run run, int none) {
    String[] missing = {"remove($)", "coordinate($, 0)", "weight($)", "tag($)", "label($, 1, 1)",
        "child($, 0)", "parent($)", "depth($)", "subtree($, 0)", "bound($, 0, 0)", "distance($)",
        "boxDistance($)", "nearest($)", "followers($)", "clusterOf($, 1)", "boxPoint($)"};
    for (String call : missing) {
      run.refusesEach(call, Run.MISSING, none, -1);
    }
    String[] illegal = {"insert(1, 1, 1, 1, 10)", "shift(1, 1, 201)", "count(4)", "setOption(0, 96)",
        "rebuilds(4)", "query(1, 1, 101)", "exclude(10, true)", "closestPair(3)", "corner(0, 1, 1, 101)",
        "corner(1, 1, 1, 101)", "center(3)", "open(3)"};
    for (String call : illegal) {
      run.refuses(call, Run.ILLEGAL);
    }
    return run.refuses("setOption(6, 1)", Run.BAD_INDEX).refuses("corner(2, 1, 1, 1)", Run.BAD_INDEX);
  }

  private static void insertFirst() {
    Run.of("Exceptions", FIRST).line(0, 60)
        .refuses("insert(101, 0, 0, 1, 0)", Run.ILLEGAL)
        .refuses("insert(0, 0, 0, 100, 0)", Run.ILLEGAL)
        .refuses("insert(0, 0, 0, 1, 10)", Run.ILLEGAL)
        .refuses("insert(0, 0, 0, 1, 0)", Run.BAD_STATE);
  }

  private static void pointsFirst() {
    Run.rich("Exceptions", FIRST)
        .refuses("coordinate(13, 3)", Run.MISSING).refuses("coordinate(-1, -1)", Run.MISSING)
        .refuses("label(13, 100, 0)", Run.MISSING).refuses("label(-1, 0, 10)", Run.MISSING)
        .refuses("shift(201, 100, 0)", Run.ILLEGAL).refuses("shift(100, 0, -201)", Run.ILLEGAL)
        .refuses("shift(200, 200, 200)", Run.BAD_ARITHMETIC);
  }

  private static void treeFirst() {
    Run.rich("Exceptions", FIRST)
        .refuses("child(10, 2)", Run.MISSING).refuses("child(13, -1)", Run.MISSING)
        .refuses("subtree(10, 2)", Run.MISSING).refuses("subtree(-1, -1)", Run.MISSING)
        .refuses("bound(10, 3, 0)", Run.MISSING).refuses("bound(13, 0, 2)", Run.MISSING);
    Run.of("Exceptions", FIRST)
        .line(0, 3).calls("remove(2)")
        .refuses("bound(2, 3, 0)", Run.MISSING).refuses("bound(2, 0, -1)", Run.MISSING)
        .refuses("bound(1, 3, 0)", Run.ILLEGAL);
  }

  private static void settingsFirst() {
    Run.rich("Exceptions", FIRST)
        .refuses("setOption(6, 0)", Run.BAD_INDEX).refuses("setOption(-1, -1)", Run.BAD_INDEX)
        .refuses("setOption(6, 100)", Run.BAD_INDEX)
        .refuses("corner(2, 101, 0, 0)", Run.BAD_INDEX).refuses("corner(-1, 0, 0, -101)", Run.BAD_INDEX);
  }

  private static void queriesFirst() {
    Run.of("Exceptions", FIRST)
        .refuses("closestPair(3)", Run.ILLEGAL).refuses("closestPair(-1)", Run.ILLEGAL)
        .refuses("closestPair(0)", Run.MISSING)
        .refuses("center(3)", Run.ILLEGAL).refuses("center(-1)", Run.ILLEGAL)
        .refuses("center(0)", Run.BAD_ARITHMETIC);
  }

  private static void cursorFirst() {
    Run.of("Exceptions", FIRST)
        .refuses("next()", Run.BAD_STATE)
        .calls("open(0)")
        .refuses("next()", Run.MISSING)
        .calls("rebuild()")
        .refuses("next()", Run.BAD_STATE)
        .at(0, 0, 0).calls("open(0)", "next()")
        .refuses("next()", Run.MISSING)
        .at(0, 0, 0)
        .refuses("next()", Run.BAD_STATE);
  }
}

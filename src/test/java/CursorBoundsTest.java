/** The bounds that "Cursor" and the promises 39 to 41 name, a run for each sentence. */
public final class CursorBoundsTest {
  private static final String INVALID = "It becomes invalid as soon as a point is created or removed, or the "
      + "tree is rebuilt or restored, by any call.";

  public static void main(String[] args) {
    orders();
    invalidByCreation();
    invalidByRemoval();
    invalidByRebuild();
    invalidByRestore();
    validBehindOtherCalls();
    validBehindRefusedCalls();
    promise39();
    promise39InPlace();
    promise39Empty();
    promise40();
    promise41();
    Check.end();
  }

  private static Run seven(String where, String sentence) {
    return Run.of(where, sentence)
        .at(0, 0, 0).at(-1, 0, 0).at(1, 0, 0).at(-1, -1, 0).at(2, 1, 0).at(-2, 3, 0).at(3, -3, 0);
  }

  private static Run goesThrough(Run run, int order, int... numbers) {
    run.due("open(" + order + ")", numbers.length);
    for (int number : numbers) {
      run.due("hasNext()", true).due("next()", number);
    }
    return run.due("hasNext()", false)
        .refuses("next()", Run.MISSING)
        .due("hasNext()", false);
  }

  private static void orders() {
    goesThrough(seven("Cursor", "0 preorder (node, left subtree, right subtree)"),
        0, 0, 1, 3, 5, 2, 6, 4);
    goesThrough(seven("Cursor", "1 inorder (left subtree, node, right subtree)"),
        1, 3, 1, 5, 0, 6, 2, 4);
    goesThrough(seven("Cursor", "2 level order (by depth, from left to right)"),
        2, 0, 1, 2, 3, 5, 6, 4);
    String live = "A cursor goes through the live points of the tree";
    for (int order = 0; order < 3; order++) {
      int[][] numbers = {{3, 5, 2, 6, 4}, {3, 5, 6, 2, 4}, {2, 3, 5, 6, 4}};
      goesThrough(seven("Cursor", live).calls("remove(0)", "remove(1)", "exclude(0, true)"),
          order, numbers[order]);
    }
  }

  private static void isInvalid(Run run) {
    run.refuses("hasNext()", Run.BAD_STATE).refuses("next()", Run.BAD_STATE);
  }

  private static void invalidByCreation() {
    isInvalid(seven("Cursor", INVALID).calls("open(0)", "next()", "insert(9, 9, 9, 1, 0)"));
    isInvalid(seven("Cursor", INVALID).calls("open(0)", "next()").text("1,2,3").calls("read()"));
    isInvalid(Run.of("Cursor", INVALID).calls("open(0)", "insert(9, 9, 9, 1, 0)"));
    isInvalid(Run.of("Cursor", INVALID).at(0, 0, 0).calls("open(0)", "next()", "insert(0, 0, 0, 1, 0)"));
  }

  private static void invalidByRemoval() {
    isInvalid(seven("Cursor", INVALID).calls("open(0)", "remove(4)"));
    isInvalid(seven("Cursor", INVALID).calls("open(0)", "next()", "remove(0)"));
    isInvalid(Run.of("Cursor", INVALID).at(0, 0, 0).calls("open(0)", "remove(0)"));
    isInvalid(Run.of("Cursor", INVALID).at(0, 0, 0).at(1, 1, 1).calls("open(0)", "remove(1)"));
  }

  private static void invalidByRebuild() {
    isInvalid(seven("Cursor", INVALID).calls("open(0)", "rebuild()"));
    isInvalid(seven("Cursor", INVALID).calls("rebuild()", "open(0)", "rebuild()"));
    isInvalid(Run.of("Cursor", INVALID).at(0, 0, 0).calls("open(0)", "rebuild()"));
  }

  private static void invalidByRestore() {
    isInvalid(seven("Cursor", INVALID).calls("save()", "open(0)", "restore()"));
    isInvalid(seven("Cursor", INVALID).calls("open(0)", "save()", "restore()"));
    isInvalid(Run.of("Cursor", INVALID).calls("save()", "open(0)", "restore()"));
  }

  /** Whatever creates, removes, rebuilds and restores nothing leaves the cursor as it is. */
  private static void validBehindOtherCalls() {
    String[] calls = {"isLive(0)", "coordinate(0, 0)", "weight(0)", "tag(0)", "label(1, 5, 5)",
        "shift(1, 1, 1)", "root()", "child(0, 0)", "parent(0)", "depth(0)", "height()",
        "subtree(0, 0)", "count(3)", "bound(0, 0, 0)", "setOption(0, 55)", "setOption(1, 10)",
        "rebuilds(0)", "query(1, 1, 1)", "exclude(9, true)", "distance(0)", "boxDistance(0)",
        "nearest(0)", "farthest()", "within(5)", "influence(5)", "closestPair(0)", "followers(0)",
        "clusters(1)", "clusterOf(0, 1)", "corner(0, 1, 1, 1)", "inBox()", "boxWeight()", "visits()",
        "faultPosition()", "save()"};
    Run run = seven("Cursor", INVALID).calls("open(0)", "next()");
    for (String call : calls) {
      run.ask(call);
      run.due("hasNext()", true);
    }
    run.text("1,2").due("next()", 1).due("next()", 3);
  }

  private static void validBehindRefusedCalls() {
    seven("Exceptions", "A call that throws an exception leaves the state unchanged")
        .calls("open(0)", "next()")
        .refuses("insert(101, 0, 0, 1, 0)", Run.ILLEGAL)
        .refuses("remove(7)", Run.MISSING)
        .refuses("restore()", Run.BAD_STATE)
        .refuses("shift(201, 0, 0)", Run.ILLEGAL)
        .due("read()", Run.ILLEGAL)
        .text("0,0,101").due("read()", Run.ILLEGAL)
        .due("next()", 1);
    Run.of("Exceptions", "A call that throws an exception leaves the state unchanged")
        .line(0, 60)
        .calls("open(1)", "next()")
        .refuses("insert(0, 0, 0, 1, 0)", Run.BAD_STATE)
        .text("0,0,0").due("read()", Run.BAD_STATE)
        .due("next()", 1);
  }

  private static void promise39() {
    Run.rich("39 open", "Throws IllegalArgumentException if there is no such order")
        .refusesEach("open($)", Run.ILLEGAL, -1, 3, Run.LEAST, Run.GREATEST);
    Run.of("39 open", "Throws IllegalArgumentException if there is no such order")
        .refusesEach("open($)", Run.ILLEGAL, -1, 3)
        .due("hasNext()", Run.BAD_STATE);
    seven("39 open", "Opens the cursor, in place of an earlier one.")
        .calls("open(0)", "next()", "next()", "open(1)")
        .due("next()", 3)
        .calls("open(1)")
        .due("next()", 3)
        .due("next()", 1)
        .calls("insert(9, 9, 9, 1, 0)", "open(2)")
        .due("next()", 0);
    Run.rich("39 open", "Returns the number of points that it will go through.")
        .dueForEach("open($)", 11, 0, 1, 2);
  }

  /** Each order in place of each, at its beginning, in its midst and at its end. */
  private static void promise39InPlace() {
    int[][] numbers = {{0, 1, 3, 5, 2, 6, 4}, {3, 1, 5, 0, 6, 2, 4}, {0, 1, 2, 3, 5, 6, 4}};
    for (int order = 0; order < 3; order++) {
      for (int earlier = 0; earlier < 3; earlier++) {
        for (int made = 0; made <= 7; made += 3) {
          Run run = seven("39 open", "Opens the cursor, in place of an earlier one.")
              .calls("open(" + earlier + ")");
          for (int i = 0; i < made; i++) {
            run.calls("next()");
          }
          goesThrough(run, order, numbers[order]);
        }
      }
    }
  }

  private static void promise39Empty() {
    for (int order = 0; order < 3; order++) {
      goesThrough(Run.of("39 open", "Returns the number of points that it will go through."), order);
      Run full = Run.of("39 open", "Returns the number of points that it will go through.")
          .turnover(60).at(1, 2, 3)
          .due("open(" + order + ")", 60);
      for (int i = 0; i < 60; i++) {
        full.calls("next()");
      }
      full.due("hasNext()", false).refuses("next()", Run.MISSING);
    }
  }

  private static void promise40() {
    Run.of("40 hasNext", "Throws IllegalStateException if the cursor is not open or invalid")
        .refuses("hasNext()", Run.BAD_STATE)
        .at(0, 0, 0)
        .refuses("hasNext()", Run.BAD_STATE)
        .calls("open(0)")
        .due("hasNext()", true)
        .calls("rebuild()")
        .refuses("hasNext()", Run.BAD_STATE);
    Run.rich("40 hasNext", "Throws IllegalStateException if the cursor is not open or invalid")
        .calls("remove(0)")
        .refuses("hasNext()", Run.BAD_STATE);
    Run.of("40 hasNext", "Returns whether there is one.")
        .at(0, 0, 0)
        .calls("open(0)")
        .due("hasNext()", true).due("hasNext()", true)
        .calls("next()")
        .due("hasNext()", false).due("hasNext()", false);
  }

  private static void promise41() {
    Run.of("41 next", "Throws IllegalStateException if the cursor is not open or invalid")
        .refuses("next()", Run.BAD_STATE)
        .at(0, 0, 0)
        .refuses("next()", Run.BAD_STATE)
        .calls("open(0)", "next()", "rebuild()")
        .refuses("next()", Run.BAD_STATE);
    Run.rich("41 next", "Throws IllegalStateException if the cursor is not open or invalid")
        .calls("restore()")
        .refuses("next()", Run.BAD_STATE);
    Run.of("41 next", "Throws NoSuchElementException if there is no further point")
        .calls("open(2)")
        .refuses("next()", Run.MISSING)
        .at(0, 0, 0)
        .calls("open(2)")
        .due("next()", 0)
        .refuses("next()", Run.MISSING)
        .refuses("next()", Run.MISSING);
  }
}

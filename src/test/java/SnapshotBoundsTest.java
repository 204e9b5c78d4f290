/** The bounds that the promises 45 and 46 name, a run for each sentence. */
public final class SnapshotBoundsTest {
  private static final String[] CHANGES = {"insert(7, 7, 7, 7, 7)", "remove(0)", "remove(9)", "label(3, 0, 0)",
      "label(10, 99, 9)", "label(11, 98, 8)", "shift(1, 1, 1)", "setOption(0, 55)", "setOption(1, 10)",
      "setOption(2, 0)", "setOption(3, 9)", "setOption(4, 9)", "setOption(5, 9)", "rebuild()",
      "query(0, 0, 0)", "query(1, -2, 4)", "exclude(5, false)", "exclude(9, true)", "corner(0, -5, -6, -8)",
      "corner(0, -4, -6, -7)", "corner(1, 8, 9, 11)", "corner(1, 8, 8, 10)"};

  public static void main(String[] args) {
    noSnapshot();
    everything();
    allAtOnce();
    anotherTree();
    emptySnapshot();
    limitsBehindRestore();
    notTheCursor();
    notTheTextBuffer();
    notTheFaultPosition();
    notTheSnapshot();
    Check.end();
  }

  private static void noSnapshot() {
    Run.of("46 restore", "Throws IllegalStateException if there is no snapshot")
        .refuses("restore()", Run.BAD_STATE)
        .line(0, 3)
        .text("1,2").calls("open(0)", "next()")
        .refuses("restore()", Run.BAD_STATE)
        .due("next()", 1)
        .calls("save()")
        .due("restore()", "done");
  }

  /** Each change by itself is taken back. */
  private static void everything() {
    for (String change : CHANGES) {
      Run run = Run.rich("45 save", "Saves everything").calls("save()");
      String saved = run.state();
      run.calls(change);
      String changed = run.state();
      run.due("restore()", "done").same("behind " + change, run.state(), saved);
      if (changed.equals(saved)) {
        run.same(change + " is seen", "no", "yes");
      }
    }
  }

  private static void allAtOnce() {
    Run run = Run.rich("45 save", "including the statistics and the points that are not live").calls("save()");
    String saved = run.state();
    run.calls(CHANGES).due("restore()", "done").same("behind all changes", run.state(), saved)
        .due("weight(10)", 31).due("tag(10)", 0).due("weight(11)", 37).due("subtree(11, 1)", 0)
        .due("count(1)", 1)
        .due("weight(13)", Run.MISSING).due("isLive(13)", false)
        .due("insert(0, 0, 0, 0, 0)", 13);
    Run rebuilds = Run.of("45 save", "including the statistics")
        .line(0, 4).calls("remove(0)", "remove(1)", "remove(2)", "rebuild()", "save()")
        .line(0, 4).calls("remove(3)", "remove(4)", "remove(5)", "remove(6)", "rebuild()", "restore()");
    rebuilds.due("rebuilds(0)", 1).due("rebuilds(1)", 1).due("rebuilds(2)", 1).due("rebuilds(3)", 6);
  }

  /** The same points in another tree. */
  private static void anotherTree() {
    Run run = Run.of("46 restore", "Restores what was saved").calls("setOption(0, 95)").line(0, 10)
        .calls("save()");
    String saved = run.state();
    run.due("root()", 0).calls("rebuild()").due("root()", 5)
        .due("restore()", "done")
        .due("root()", 0).due("height()", 10)
        .same("the earlier tree", run.state(), saved);
  }

  private static void emptySnapshot() {
    Run run = Run.of("46 restore", "Restores what was saved").calls("save()").line(0, 60);
    run.due("restore()", "done")
        .due("height()", 0).due("root()", Run.MISSING).due("isLive(0)", false)
        .due("weight(0)", Run.MISSING).due("depth(0)", Run.MISSING)
        .dueForEach("count($)", 0, 0, 1, 2, 3).dueForEach("rebuilds($)", 0, 0, 1, 2, 3)
        .due("insert(1, 2, 3, 4, 5)", 0)
        .due("root()", 0).due("child(0, 0)", -1).due("child(0, 1)", -1);
    Run full = Run.of("46 restore", "Restores what was saved").line(0, 60).calls("save()");
    String saved = full.state();
    for (int id = 0; id < 60; id++) {
      full.calls("remove(" + id + ")");
    }
    full.due("height()", 0).due("restore()", "done").same("behind it", full.state(), saved)
        .refuses("insert(0, 0, 0, 1, 0)", Run.BAD_STATE);
  }

  /** The points that were created behind the snapshot have not been created. */
  private static void limitsBehindRestore() {
    Run created = Run.of("46 restore", "Restores what was saved").turnover(198).calls("save()");
    created.calls("remove(197)", "insert(0, 0, 0, 1, 0)", "remove(196)", "insert(0, 0, 0, 1, 0)")
        .due("insert(0, 0, 0, 1, 0)", Run.BAD_STATE)
        .due("restore()", "done")
        .due("count(2)", 198)
        .due("insert(0, 0, 0, 1, 0)", 198)
        .calls("remove(198)")
        .due("insert(0, 0, 0, 1, 0)", 199)
        .calls("remove(199)")
        .refuses("insert(0, 0, 0, 1, 0)", Run.BAD_STATE);
    Run.of("46 restore", "Restores what was saved").line(0, 59).calls("save()").line(0, 1)
        .due("insert(0, 0, 0, 1, 0)", Run.BAD_STATE)
        .due("restore()", "done")
        .due("insert(0, 0, 0, 1, 0)", 59)
        .due("insert(0, 0, 0, 1, 0)", Run.BAD_STATE);
  }

  private static void notTheCursor() {
    Run.of("45 save", "except the cursor").line(0, 3).calls("open(0)", "next()", "save()")
        .due("next()", 1)
        .due("restore()", "done")
        .due("hasNext()", Run.BAD_STATE)
        .due("next()", Run.BAD_STATE)
        .calls("open(0)")
        .due("next()", 0);
    Run.of("46 restore", "The cursor becomes invalid.").calls("save()", "open(0)")
        .due("hasNext()", false)
        .due("restore()", "done")
        .refuses("hasNext()", Run.BAD_STATE)
        .refuses("next()", Run.BAD_STATE);
    Run.of("46 restore", "The cursor becomes invalid.").line(0, 3).calls("save()", "rebuild()", "restore()")
        .due("hasNext()", Run.BAD_STATE);
  }

  private static void notTheTextBuffer() {
    Run.of("45 save", "the text buffer").text("1,2").calls("save()").text(",3").calls("restore()").text("4")
        .due("read()", 1)
        .due("coordinate(0, 2)", 34);
    Run.of("45 save", "the text buffer").text("1,2,3").calls("save()", "read()", "restore()")
        .due("count(2)", 0)
        .due("read()", Run.ILLEGAL)
        .due("faultPosition()", 0);
  }

  private static void notTheFaultPosition() {
    Run.of("45 save", "the fault position").calls("save()").text("1x").due("read()", Run.ILLEGAL)
        .calls("restore()")
        .due("faultPosition()", 1);
    Run.of("45 save", "the fault position").text("1x").due("read()", Run.ILLEGAL).calls("save()")
        .text("1,2,3").calls("read()", "restore()")
        .due("faultPosition()", -1);
  }

  private static void notTheSnapshot() {
    Run.of("45 save", "in place of an earlier snapshot").line(0, 1).calls("save()").line(1, 2).calls("save()")
        .line(2, 3).calls("restore()")
        .due("count(2)", 2)
        .calls("restore()")
        .due("count(2)", 2);
    Run.of("46 restore", "the snapshot is kept").line(0, 2).calls("save()", "remove(0)", "restore()")
        .due("isLive(0)", true)
        .calls("remove(0)", "remove(1)", "insert(9, 9, 9, 1, 0)", "label(0, 9, 9)", "shift(1, 1, 1)",
            "query(9, 9, 9)", "setOption(2, 3)", "exclude(0, true)", "restore()")
        .due("isLive(0)", true).due("isLive(1)", true).due("count(2)", 2).due("count(3)", 2)
        .due("weight(0)", 1).due("distance(1)", 3).due("setOption(2, 0)", 0);
    Run.rich("45 save", "Saves everything").calls("save()").due("restore()", "done").due("restore()", "done")
        .due("hasNext()", Run.BAD_STATE);
  }
}

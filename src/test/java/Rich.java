/**
 * A run in which a bit of everything has happened, so that a change anywhere in the state is seen.
 * The points 0 to 12 are created. Live: all but 10, which has left the tree, and 11, which is a
 * removed point in it. The points 8 and 12 have the excluded tag 5. Points lie at both corners of
 * the query box and just outside of it on each side.
 */
final class Rich {
  private Rich() {
  }

  static Run made(Run run) {
    run.calls("insert(-5, -6, -7, 3, 1)", "insert(8, 9, 10, 0, 2)", "insert(-6, 0, 0, 5, 1)",
        "insert(9, 0, 0, 7, 3)", "insert(0, -7, 0, 11, 1)", "insert(0, 10, 0, 13, 4)",
        "insert(0, 0, -8, 17, 1)", "insert(0, 0, 11, 19, 1)", "insert(1, 2, 3, 23, 5)",
        "insert(-50, 60, -70, 29, 9)", "insert(40, -30, 20, 31, 0)", "remove(10)", "rebuild()",
        "save()");
    run.calls("insert(41, -31, 21, 37, 0)", "insert(1, 2, 3, 41, 5)", "remove(11)",
        "setOption(0, 80)", "setOption(1, 60)", "setOption(2, 3)", "setOption(3, 2)",
        "setOption(4, 3)", "setOption(5, 4)", "query(1, -2, 3)", "corner(0, -5, -6, -7)",
        "corner(1, 8, 9, 10)", "exclude(5, true)");
    run.text("1,2x").due("read()", Run.ILLEGAL);
    return run.calls("open(1)", "next()", "next()").text("7,8,9:1");
  }
}

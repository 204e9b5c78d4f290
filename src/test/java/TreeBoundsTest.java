import java.util.ArrayList;
import java.util.Comparator;
import java.util.HashSet;
import java.util.List;
import java.util.Set;

/** The bounds that "Tree", "Building", "Insertion", "Removal" and "Options" name. */
public final class TreeBoundsTest {
  public static void main(String[] args) {
    inTheTree();
    everyPointInTheTree();
    axes();
    sides();
    sizes();
    nothingToBuild();
    middle();
    orderOnAxes();
    everySize();
    whatLeaves();
    leaves();
    unbalancedAtTheRight();
    unbalancedAtTheLeft();
    leastAndGreatestBalance();
    removedPointsInTheSizes();
    onThePathAlone();
    closestToTheRoot();
    belowTheRoot();
    staysFirst();
    removedPoints();
    options();
    Check.end();
  }

  private static void inTheTree() {
    Run.of("Tree", "Every live point is in the tree; a removed point can stay in the tree for some time.")
        .line(0, 3)
        .dueForEach("depth($)", 0, 0).dueForEach("depth($)", 1, 1).dueForEach("depth($)", 2, 2)
        .calls("remove(0)")
        .due("depth(0)", 0)
        .due("child(0, 1)", 1)
        .calls("rebuild()")
        .due("depth(0)", Run.MISSING)
        .due("depth(1)", 1)
        .due("depth(2)", 0);
  }

  /** All 200 points are in the tree at once, 60 of them live; the last one is the last in order. */
  private static void everyPointInTheTree() {
    for (int order = 0; order < 3; order++) {
      Run run = Run.of("Tree", "Every live point is in the tree; a removed point can stay in the tree for some "
          + "time.")
          .calls("setOption(0, 95)", "setOption(1, 90)").scatter(199).at(100, 100, 100)
          .due("rebuilds(1)", 0)
          .due("count(1)", 140)
          .due("shift(0, 0, 0)", 200);
      run.due("subtree(" + run.number("root()") + ", 0)", 200)
          .due("open(" + order + ")", 60);
      Set<Integer> numbers = new HashSet<>();
      for (int i = 0; i < 60; i++) {
        numbers.add(run.number("next()"));
      }
      Check.due("different numbers", () -> numbers.size(), 60);
      Check.due("the live ones", () -> numbers.stream().allMatch(id -> id >= 140), true);
      run.due("hasNext()", false)
          .due("rebuild()", 140)
          .due("count(1)", 0)
          .due("height()", 6);
    }
  }

  /** A chain of seven points; seven more leave it at one depth each, on the axis of that depth. */
  private static void axes() {
    Run run = Run.of("Tree", "The root has depth 0, and the axis of a node is its depth modulo 3.")
        .calls("setOption(0, 95)");
    for (int i = 0; i < 7; i++) {
      run.at(10 * i, 10 * i, 10 * i);
    }
    for (int i = 0; i < 7; i++) {
      run.due("depth(" + i + ")", i);
      int[] place = {90, 90, 90};
      place[i % 3] = 10 * i - 1;
      run.at(place[0], place[1], place[2])
          .due("child(" + i + ", 0)", 7 + i)
          .due("depth(" + (7 + i) + ")", i + 1);
    }
    run.due("rebuilds(0)", 0).due("height()", 8);
  }

  /** Some of these places are equal on an axis or two, and the insertions rebuild now and then. */
  private static void sides() {
    Run run = Run.of("Tree", "All points in the left subtree of a node are before its point, on the axis of "
        + "the node, and all points in the right subtree are not.");
    int[][] points = new int[60][];
    for (int i = 0; i < 60; i++) {
      points[i] = new int[] {i * i % 17, i * 5 % 9, i * 7 % 4, i};
      run.at(points[i][0], points[i][1], points[i][2]);
    }
    Check.due("live points in the tree", () -> under(run, points, run.number("root()"), 0).size(), 60);
  }

  private static List<int[]> under(Run run, int[][] points, int node, int depth) {
    List<int[]> all = new ArrayList<>();
    if (node == -1) {
      return all;
    }
    all.addAll(under(run, points, run.number("child(" + node + ", 0)"), depth + 1));
    int left = all.size();
    all.addAll(under(run, points, run.number("child(" + node + ", 1)"), depth + 1));
    Comparator<int[]> order = on(depth % 3);
    for (int i = 0; i < all.size(); i++) {
      boolean before = order.compare(all.get(i), points[node]) < 0;
      Check.due("Tree: " + all.get(i)[3] + " is before " + node, () -> before, i < left);
    }
    all.add(points[node]);
    return all;
  }

  private static Comparator<int[]> on(int axis) {
    return Comparator.<int[]>comparingInt(p -> p[axis]).thenComparingInt(p -> p[3]);
  }

  private static void sizes() {
    Run.of("Tree", "The size of a subtree is the number of all its nodes, including those with removed "
        + "points.")
        .line(0, 3)
        .calls("remove(1)")
        .due("subtree(0, 0)", 3)
        .due("subtree(1, 0)", 2)
        .due("subtree(2, 0)", 1)
        .calls("setOption(1, 90)", "remove(2)")
        .due("subtree(1, 0)", 2)
        .due("subtree(2, 0)", 1);
  }

  private static void nothingToBuild() {
    Run.of("Building", "If there are no points, it is empty.")
        .at(1, 2, 3)
        .due("remove(0)", 0)
        .due("height()", 0)
        .due("root()", Run.MISSING)
        .due("depth(0)", Run.MISSING)
        .due("count(1)", 0)
        .due("visits()", 0)
        .due("insert(4, 5, 6, 1, 0)", 1)
        .due("root()", 1)
        .due("child(1, 0)", -1)
        .due("child(1, 1)", -1);
    Run.of("Building", "If there are no points, it is empty.")
        .calls("setOption(1, 90)").line(0, 2)
        .due("remove(0)", 1)
        .due("count(1)", 1)
        .due("remove(1)", 0)
        .due("height()", 0)
        .due("count(1)", 0)
        .due("rebuild()", 0)
        .due("height()", 0);
  }

  private static void middle() {
    String sentence = "the point with index n / 2 (rounded down, from 0) of the n points becomes the root";
    for (int n = 1; n <= 60; n++) {
      Run.of("Building", sentence).line(0, n).calls("rebuild()").due("root()", n / 2);
    }
  }

  /** The same four points stand in another order on each axis. */
  private static void orderOnAxes() {
    String sentence = "the points before it are built into its left subtree and the points after it into "
        + "its right subtree, at the depth plus 1";
    Run.of("Building", sentence)
        .at(1, 2, 9).at(2, 1, 9).at(3, 9, 9).at(4, 8, 9)
        .calls("rebuild()")
        .due("root()", 2)
        .due("child(2, 0)", 0).due("child(2, 1)", 3)
        .due("child(0, 0)", 1).due("child(0, 1)", -1)
        .due("child(3, 0)", -1).due("child(3, 1)", -1);
    Run.of("Building", sentence)
        .at(0, 0, 4).at(1, 1, 3).at(2, 2, 2).at(3, 3, 1).at(4, 9, 9).at(5, 9, 9)
        .calls("rebuild()")
        .due("root()", 3)
        .due("child(3, 0)", 1).due("child(1, 0)", 0).due("child(1, 1)", 2)
        .due("child(3, 1)", 5).due("child(5, 0)", 4).due("child(5, 1)", -1);
    // On axis 2, the two points of a subtree at depth 2 stand the other way round.
    Run.of("Building", sentence)
        .at(0, 0, 4).at(1, 1, 3).at(2, 2, 2).at(3, 3, 1).at(4, 4, 0).at(5, 5, 0).at(6, 6, 0)
        .at(7, 7, 0)
        .calls("rebuild()")
        .due("root()", 4)
        .due("child(4, 0)", 2).due("child(2, 0)", 0).due("child(0, 0)", 1).due("child(0, 1)", -1)
        .due("child(2, 1)", 3);
  }

  private static void everySize() {
    String sentence = "A balanced subtree of given live points at a given depth is built as follows.";
    for (int n : new int[] {2, 3, 4, 7, 15, 16, 31, 59, 60}) {
      Run run = Run.of("Building", sentence);
      List<int[]> points = new ArrayList<>();
      for (int i = 0; i < n; i++) {
        int[] point = {i * 37 % 11, i * 53 % 7, i * 29 % 13, i};
        points.add(point);
        run.at(point[0], point[1], point[2]);
      }
      run.calls("rebuild()").due("root()", built(run, points, 0));
    }
  }

  /** The root that the document's words make of these points; the tree below it is looked at. */
  private static int built(Run run, List<int[]> points, int depth) {
    if (points.isEmpty()) {
      return -1;
    }
    List<int[]> ordered = new ArrayList<>(points);
    ordered.sort(on(depth % 3));
    int middle = ordered.size() / 2;
    int root = ordered.get(middle)[3];
    run.due("child(" + root + ", 0)", built(run, ordered.subList(0, middle), depth + 1));
    run.due("child(" + root + ", 1)",
        built(run, ordered.subList(middle + 1, ordered.size()), depth + 1));
    return root;
  }

  private static void whatLeaves() {
    Run.of("Building", "its removed points leave the tree")
        .calls("setOption(0, 95)")
        .at(0, 0, 0).at(-1, 0, 0).at(1, 0, 0).at(2, 1, 0).at(-2, 1, 0)
        .calls("remove(4)", "remove(3)", "setOption(0, 55)")
        .due("count(1)", 2)
        .at(3, 2, 5)
        .due("rebuilds(0)", 1)
        .due("count(1)", 1)
        .due("depth(3)", Run.MISSING)
        .due("depth(4)", 2)
        .due("rebuilds(3)", 2)
        .due("root()", 0)
        .due("child(0, 1)", 5)
        .due("child(5, 0)", 2);
  }

  private static void leaves() {
    String sentence = "it goes to the left subtree if it is before the point of the node, otherwise to the "
        + "right one, until the subtree is empty";
    Run.of("Insertion", sentence)
        .due("insert(0, 0, 0, 1, 0)", 0)
        .due("root()", 0)
        .due("insert(-1, 50, 50, 1, 0)", 1)
        .due("child(0, 0)", 1)
        .due("insert(0, -50, -50, 1, 0)", 2)
        .due("child(0, 1)", 2)
        .due("insert(1, -51, 0, 1, 0)", 3)
        .due("child(2, 0)", 3)
        .due("insert(-2, 50, 0, 1, 0)", 4)
        .due("child(1, 1)", 4)
        .due("insert(-3, 49, 0, 1, 0)", 5)
        .due("child(1, 0)", 5)
        .due("rebuilds(0)", 0);
  }

  private static void unbalancedAtTheRight() {
    String sentence = "times 100, is greater than the balance option times the size of the subtree of the "
        + "node";
    Run.of("Insertion", sentence)
        .calls("setOption(0, 75)").at(0, 0, 0).at(5, 0, 0).at(6, -1, 0).at(7, 1, 0)
        .due("rebuilds(0)", 0)
        .due("root()", 0);
    Run.of("Insertion", sentence)
        .calls("setOption(0, 74)").at(0, 0, 0).at(5, 0, 0).at(6, -1, 0)
        .due("rebuilds(0)", 0)
        .at(7, 1, 0)
        .due("rebuilds(0)", 1)
        .due("root()", 2);
    Run.of("Insertion", sentence)
        .calls("setOption(0, 67)").line(0, 3)
        .due("rebuilds(0)", 0);
    Run.of("Insertion", sentence)
        .calls("setOption(0, 66)").line(0, 3)
        .due("rebuilds(0)", 1)
        .due("root()", 1);
  }

  private static void unbalancedAtTheLeft() {
    String sentence = "the greater one of the sizes of its two subtrees";
    Run.of("Insertion", sentence)
        .calls("setOption(0, 75)").at(0, 0, 0).at(-5, 0, 0).at(-6, -1, 0).at(-7, 1, 0)
        .due("rebuilds(0)", 0)
        .due("root()", 0);
    Run.of("Insertion", sentence)
        .calls("setOption(0, 74)").at(0, 0, 0).at(-5, 0, 0).at(-6, -1, 0)
        .due("rebuilds(0)", 0)
        .at(-7, 1, 0)
        .due("rebuilds(0)", 1)
        .due("root()", 1);
    Run.of("Insertion", sentence)
        .calls("setOption(0, 60)").at(0, 0, 0).at(-5, 0, 0).at(5, 0, 0).at(-6, -1, 0).at(-7, 1, 0)
        .due("rebuilds(0)", 0);
    Run.of("Insertion", sentence)
        .calls("setOption(0, 59)").at(0, 0, 0).at(-5, 0, 0).at(5, 0, 0).at(-6, -1, 0).at(-7, 1, 0)
        .due("rebuilds(0)", 1);
  }

  private static void leastAndGreatestBalance() {
    String sentence = "times 100, is greater than the balance option times the size of the subtree of the "
        + "node";
    Run.of("Insertion", sentence)
        .calls("setOption(0, 95)").line(0, 20)
        .due("rebuilds(0)", 0)
        .due("height()", 20)
        .line(20, 21)
        .due("rebuilds(0)", 1)
        .due("rebuilds(3)", 21)
        .due("root()", 10);
    Run least = Run.of("Insertion", sentence).calls("setOption(0, 95)");
    for (int i = 0; i < 18; i++) {
      least.at(5 * i, 5 * i, 5 * i);
    }
    // The left subtree of the root has 9, 10, 11 of 18, 19, 20 nodes, and then 12 of 21.
    least.calls("rebuild()", "setOption(0, 55)")
        .at(17, 17, 17).at(42, 42, 42)
        .due("rebuilds(0)", 0)
        .due("subtree(4, 0)", 11)
        .due("subtree(9, 0)", 20)
        .at(37, 37, 37)
        .due("rebuilds(0)", 1)
        .due("rebuilds(3)", 18 + 21);
  }

  private static void removedPointsInTheSizes() {
    String sentence = "is greater than the balance option times the size of the subtree of the node";
    // The live points alone would be 0 at the left and 3 at the right of 4.
    Run.of("Insertion", sentence)
        .at(0, 0, 0).at(-1, 0, 0).at(-2, 1, 0).at(1, 0, 0).at(2, -1, 0)
        .calls("remove(1)", "remove(2)")
        .at(3, 1, 0)
        .due("rebuilds(0)", 0)
        .due("count(1)", 2);
    // The live points alone would be 1 at the left and 2 at the right of 4.
    Run.of("Insertion", sentence)
        .at(0, 0, 0).at(-1, 0, 0).at(1, 0, 0).at(2, -1, 0).at(2, 1, 0)
        .calls("remove(3)", "remove(4)", "setOption(0, 66)")
        .at(3, -2, -1)
        .due("rebuilds(0)", 1)
        .due("rebuilds(3)", 4)
        .due("count(1)", 0);
  }

  /** The chain at the left is unbalanced for the later option, but nothing is inserted there. */
  private static void onThePathAlone() {
    Run.of("Insertion", "If a node on the path from the root to the new leaf is unbalanced")
        .calls("setOption(0, 95)")
        .at(0, 0, 0).at(-1, 0, 0).at(-1, 1, 0).at(-1, 1, 1).at(1, 0, 0).at(1, -1, 0)
        .calls("setOption(0, 55)")
        .at(1, 1, 0)
        .due("rebuilds(0)", 0)
        .due("child(1, 1)", 2).due("child(2, 1)", 3)
        .at(-2, 2, 2)
        .due("rebuilds(0)", 1)
        .due("rebuilds(3)", 4)
        .due("root()", 0);
  }

  private static void closestToTheRoot() {
    Run.of("Insertion", "the subtree of the one closest to the root is rebuilt")
        .calls("setOption(0, 95)").line(0, 4).calls("setOption(0, 66)").line(4, 5)
        .due("rebuilds(0)", 1)
        .due("rebuilds(3)", 5)
        .due("root()", 2)
        .due("child(2, 0)", 1).due("child(1, 0)", 0)
        .due("child(2, 1)", 4).due("child(4, 0)", 3);
  }

  /** Depth 1 is rebuilt on axis 1, where the points stand in another order than on axis 0. */
  private static void belowTheRoot() {
    Run.of("Insertion", "the subtree of the one closest to the root is rebuilt")
        .at(0, 0, 0).at(-1, 0, 0).at(1, 0, 0).at(-2, -1, 0).at(2, -1, 0)
        .calls("setOption(0, 60)")
        .at(-3, -2, -5)
        .due("rebuilds(0)", 1)
        .due("rebuilds(3)", 3)
        .due("root()", 0)
        .due("child(0, 0)", 3).due("child(3, 0)", 5).due("child(3, 1)", 1)
        .due("child(0, 1)", 2).due("child(2, 0)", 4);
  }

  private static void staysFirst() {
    Run.of("Removal", "A removed point stays in the tree first.")
        .line(0, 2)
        .calls("remove(0)")
        .due("count(1)", 1)
        .due("depth(0)", 0)
        .due("child(0, 1)", 1)
        .due("rebuilds(1)", 0);
  }

  private static void removedPoints() {
    String sentence = "if the number of removed points in the tree, times 100, is greater than the removal "
        + "option times the number of all nodes, the whole tree is rebuilt";
    Run.of("Removal", sentence)
        .line(0, 4)
        .calls("remove(0)", "remove(1)")
        .due("count(1)", 2)
        .due("rebuilds(1)", 0)
        .calls("remove(3)")
        .due("count(1)", 0)
        .due("rebuilds(1)", 1)
        .due("root()", 2);
    Run.of("Removal", sentence)
        .calls("setOption(1, 10)").line(0, 10)
        .calls("remove(0)")
        .due("count(1)", 1)
        .due("rebuilds(1)", 0)
        .calls("remove(1)")
        .due("count(1)", 0)
        .due("rebuilds(1)", 1)
        .due("root()", 6)
        .calls("remove(2)")
        .due("count(1)", 0)
        .due("rebuilds(1)", 2);
    Run greatest = Run.of("Removal", sentence).calls("setOption(1, 90)").line(0, 11);
    for (int id = 0; id < 9; id++) {
      greatest.calls("remove(" + id + ")");
    }
    greatest.due("count(1)", 9)
        .due("rebuilds(1)", 0)
        .due("remove(9)", 1)
        .due("count(1)", 0)
        .due("rebuilds(1)", 1)
        .due("root()", 10);
    Run ten = Run.of("Removal", sentence).calls("setOption(1, 90)").line(0, 10);
    for (int id = 0; id < 9; id++) {
      ten.calls("remove(" + id + ")");
    }
    ten.due("count(1)", 9).due("rebuilds(1)", 0).due("subtree(9, 1)", 1);
    Run.of("Removal", sentence)
        .calls("setOption(1, 33)").line(0, 3)
        .calls("remove(0)")
        .due("rebuilds(1)", 1);
    Run.of("Removal", sentence)
        .calls("setOption(1, 34)").line(0, 3)
        .calls("remove(0)")
        .due("rebuilds(1)", 0);
  }

  private static void options() {
    String[] sentences = {"Option 0 is the balance option, 55 to 95, at first 70.",
        "Option 1 is the removal option, 10 to 90, at first 50.",
        "Option 2 is the metric, 0 to 3, at first 0.",
        "The options 3, 4 and 5 are the factors of the axes 0, 1 and 2, 1 to 9, at first 1."};
    int[][] ranges = {{55, 95, 70}, {10, 90, 50}, {0, 3, 0}, {1, 9, 1}, {1, 9, 1}, {1, 9, 1}};
    for (int option = 0; option < 6; option++) {
      int[] range = ranges[option];
      String call = "setOption(" + option + ", $)";
      Run.of("Options", sentences[Math.min(option, 3)])
          .refusesEach(call, Run.ILLEGAL, range[0] - 1, range[1] + 1)
          .due(call.replace("$", "" + range[0]), range[2])
          .due(call.replace("$", "" + range[1]), range[0])
          .refusesEach(call, Run.ILLEGAL, range[0] - 1, range[1] + 1)
          .due(call.replace("$", "" + range[0]), range[1]);
    }
    Run.of("Options", "A change of an option does not change the tree.")
        .calls("setOption(0, 95)", "setOption(1, 90)").line(0, 6)
        .calls("remove(0)", "remove(1)", "remove(2)", "open(0)")
        .calls("setOption(0, 55)", "setOption(1, 10)", "setOption(2, 3)", "setOption(3, 9)")
        .due("next()", 3)
        .due("root()", 0)
        .due("height()", 6)
        .due("count(1)", 3)
        .dueForEach("rebuilds($)", 0, 0, 1, 2, 3);
  }
}
